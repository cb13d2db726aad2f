/** Bounds in the document's part 1 (doors, rings, texts) and in promises 1 to 8. */
final class BoundsOfTexts {
  private static final int BAD = Bounds.BAD, NO = Bounds.NO, FULL = Bounds.FULL, NONE = Bounds.NONE;
  private static final int MIN = Bounds.MIN, MAX = Bounds.MAX;
  private static final String LEAST = Bounds.LEAST, MOST = Bounds.MOST;
  private static final String FIRST_TOWN = "p0,0,3,0,1;p1,0,3,6,2;p2,0,3,4,5;p3,1,2,9,1;p0,1,2,3,7;p2,1,5,3,1;p1,4,1,0,0;";

  private final Bounds b;

  BoundsOfTexts(Bounds bounds) {
    b = bounds;
  }

  void test() {
    doors();
    yardsOfARing();
    lettersOfAText();
    lettersOfItems();
    figuresOfNumbers();
    commas();
    semicolons();
    numbersOfItems();
    sevenPeople();
    placeOfTheFault();
    whatIsLaid();
    firstTown();
    newObject();
    write();
    wipe();
    fault();
    lay();
    person();
    near();
    about();
  }

  // ---- the terms

  private void doors() {
    b.term("There are DOORS 0 to 5.");
    Run r = b.run();
    r.is(BAD, "about", -1);
    r.is(7, "about", 0);
    r.is(0, "about", 5);
    r.is(BAD, "about", 6);
    r.is(BAD, "weave", 0, -1, 3);
    r.is(BAD, "weave", 0, 6, 3);
    r.is(1, "weave", 0, 5, 3);
    r.is(1, "about", 5);
    r.is(3, "weave", 0, 0, 3);
    r.is(BAD, "spread", -1, -1);
    r.is(2, "spread", 0, -1);
    r.is(0, "spread", 5, -1);
    r.is(BAD, "spread", 6, -1);
  }

  private void yardsOfARing() {
    b.term("A RING has 12 YARDS, 0 to 11, behind the last one the first.");
    Run r = b.run("p0,0,1,11,1;p0,0,1,0,11;p0,0,1,11,11;p0,0,1,11,0;p0,0,1,0,0;");
    r.is(0, "near", 3, 4);
    r.is(0, "behind", 1, 0);
    r.is(11, "behind", 12, 0);
    r.is(0, "behind", 13, 0);
    // Behind a day: in yards 0 (1 beyond the last), 11 (the last), 10 (once round but for two), 11 and 0.
    r.is(2, "pass", 1);
    int[] yards = {0, 11, 10, 11, 0};
    for (int p = 0; p < 5; p++) r.is(yards[p], "person", p, 3);
    r.is(BAD, "seen", 0, 0, -1);
    r.is(1, "seen", 0, 0, 0);
    r.is(2, "seen", 0, 0, 11);
    r.is(BAD, "seen", 0, 0, 12);
    r.is(BAD, "told", 0, -1);
    r.is(1, "told", 0, 0);
    r.is(2, "told", 0, 11);
    r.is(BAD, "told", 0, 12);
  }

  private void lettersOfAText() {
    b.term("A TEXT is letters (200 at most),");
    Run r = b.run();
    for (int i = 1; i <= 199; i++) r.gives(i, "write", 'p');
    r.is(200, "write", 'p');
    r.is(FULL, "write", 'p');
    r.is(200, "count", 10);
    r.is(200, "wipe");
    r.is(1, "write", 'p');
    // The letter that finds no room goes nowhere: the first item stays as it was.
    r = b.run().write(LEAST.repeat(18) + "p,");
    r.is(FULL, "write", 'x');
    r.is(77, "fault");
  }

  private void hasFault(String text, int place) {
    Run r = b.run().write(text);
    r.is(place, "fault");
    r.is(NO, "lay");
    r = b.run().write(MOST + text + LEAST);
    r.is(MOST.length() + place, "fault");
    r.is(NO, "lay");
    r = b.run().write(LEAST + MOST + text);
    r.is(LEAST.length() + MOST.length() + place, "fault");
  }

  private void hasNoFault(String text) {
    Run r = b.run().write(text);
    r.is(NONE, "fault");
    r.is(1, "lay");
    r = b.run().write(MOST + text + LEAST);
    r.is(NONE, "fault");
    r.is(3, "lay");
  }

  private void lettersOfItems() {
    b.term("ITEMS one behind the other, each a letter,");
    String[] items = {"0,0,1,0,0;", "P0,0,1,0,0;", "o0,0,1,0,0;", "q0,0,1,0,0;", " p0,0,1,0,0;", "pp0,0,1,0,0;", "p 0,0,1,0,0;", ";"};
    for (String item : items) hasFault(item, 0);
    hasNoFault(LEAST);
    hasNoFault(MOST);
    // Nothing stands between two items.
    Run r = b.run().write(LEAST + " " + LEAST);
    r.is(11, "fault");
    r = b.run().write(LEAST + "," + LEAST);
    r.is(11, "fault");
  }

  /** An item of five numbers, one of them put as told. */
  private static String item(int place, String number) {
    String[] numbers = {"0", "0", "1", "0", "0"};
    numbers[place] = number;
    return "p" + String.join(",", numbers) + ";";
  }

  private void figuresOfNumbers() {
    b.term("then numbers (one or two figures)");
    for (int place = 0; place < 5; place++) {
      hasNoFault(item(place, "1"));
      hasNoFault(item(place, "01"));
      // Signs next to the figures in ASCII are none.
      String[] wrong = {"", "001", "011", "1 ", " 1", "+1", "-1", "1/", "/", ":", "1:", "a", "0x"};
      for (String number : wrong) hasFault(item(place, number), 0);
    }
  }

  private void commas() {
    b.term("parted by ,");
    String[] instead = {"", ";", ",,", ".", " ", ", ", " ,", "+", "-"};
    for (int place = 0; place < 4; place++)
      for (String sign : instead) {
        String[] parts = {"p0", "0", "1", "0", "0;"};
        StringBuilder text = new StringBuilder(parts[0]);
        for (int i = 0; i < 4; i++) text.append(i == place ? sign : ",").append(parts[i + 1]);
        hasFault(text.toString(), 0);
      }
    // Numbers are five: four are too few and six are too many.
    hasFault("p0,0,1,0;", 0);
    hasFault("p0,0,1,0,0,0;", 0);
    hasFault("p;", 0);
    hasFault("p,,,,;", 0);
  }

  private void semicolons() {
    b.term("and a ; behind the last one:");
    hasFault("p0,0,1,0,0", 0);
    hasFault("p0,0,1,0,0,", 0);
    hasFault("p0,0,1,0,0:", 0);
    hasFault("p0,0,1,0,0 ;", 0);
    hasFault("p0,0,1,0,0;;", 11);
    // Each beginning of an item is at fault till its ; is there.
    Run r = b.run();
    for (int i = 0; i < MOST.length(); i++) {
      r.is(i == 0 ? NONE : 0, "fault");
      r.is(i + 1, "write", MOST.charAt(i));
    }
    r.is(NONE, "fault");
  }

  /** The numbers in a place of an item: all from the least to the most are told, and none beside them. */
  private void told(int place, int least, int most) {
    for (int number = 0; number <= 99; number++) {
      boolean told = number >= least && number <= most;
      Run r = b.run().write(item(place, String.valueOf(number)));
      r.is(told ? NONE : 0, "fault");
      r.is(told ? 1 : NO, "lay");
      r.is(told ? number : new int[] {0, 0, 3, 0, 1}[place], "person", 0, place);
    }
  }

  private void numbersOfItems() {
    b.term("pK,D,W,Y,S a PERSON of KIND K (0 PLAIN, 1 MOURNING, 2 BURR, 3 DROPPING IN),");
    told(0, 0, 3);
    b.term("who goes about DOOR D (0 to 5),");
    told(1, 0, 5);
    b.term("W (1 to 9) WIDE,");
    told(2, 1, 9);
    b.term("is in YARD Y (0 to 11),");
    told(3, 0, 11);
    b.term("with a PACE of S (0 to 11);");
    told(4, 0, 11);
  }

  private void sevenPeople() {
    b.term("7 at most, 0, 1, ..");
    for (int people = 1; people <= 7; people++) {
      Run r = b.run().write(LEAST.repeat(people));
      r.is(NONE, "fault");
      r.is(people, "lay");
      r.is(people, "count", 0);
      r.is(0, "person", people - 1, 4);
      r.is(BAD, "person", people, 4);
      r.is(BAD, "person", -1, 4);
    }
    Run r = b.run().write(LEAST.repeat(7) + "p");
    r.is(77, "fault");
    r.is(NO, "lay");
    r.write("0,0,1,0,0;");
    r.is(77, "fault");
    r.is(NO, "lay");
    r.is(7, "count", 0);
    r.write(LEAST);
    r.is(77, "fault");
  }

  private void placeOfTheFault() {
    b.term("FAULT: the place (from 0 on) of the first letter of the first ITEM that is not so.");
    b.run().write("x").is(0, "fault");
    b.run().write("p4,0,1,0,0;" + LEAST).is(0, "fault");
    b.run().write(LEAST + "p0,0,1,0,12;").is(11, "fault");
    b.run().write(LEAST + MOST + "p0,0,1,0,12;" + "p4,0,1,0,0;").is(24, "fault");
    b.run().write(MOST.repeat(6) + "p0,0,0,0,0;").is(78, "fault");
    // The last place at which one can be: behind seven items of five numbers of two figures.
    String longest = "p03,05,09,11,11;".repeat(7);
    Run r = b.run().write(longest);
    r.is(NONE, "fault");
    r.is(7, "lay");
    r.write("p".repeat(88));
    r.is(200, "count", 10);
    r.is(112, "fault");
  }

  private void whatIsLaid() {
    b.term("LAID is a TEXT without FAULT, of a PERSON at least (NO else;");
    Run r = b.run();
    r.is(NO, "lay");
    r.write("p0,0,1,0,0");
    r.is(NO, "lay");
    r.is(11, "write", ';');
    r.is(1, "lay");
    r.make("write", 'p');
    r.is(NO, "lay");
    r.make("wipe");
    r.is(NO, "lay");
    r.is(1, "count", 0);
  }

  private void firstTown() {
    b.term("at first " + FIRST_TOWN + ").");
    Run first = b.run();
    Run laid = b.run(MOST).lay(FIRST_TOWN);
    int at = 0;
    for (int p = 0; p < 7; p++)
      for (int what = 0; what < 5; what++) {
        int number = FIRST_TOWN.charAt(at + 1) - '0';
        at += 2 + (what == 4 ? 1 : 0);
        first.gives(number, "person", p, what);
        laid.gives(number, "person", p, what);
      }
    first.is(BAD, "person", 7, 0);
  }

  // ---- the promises

  private void newObject() {
    b.promise(1, "As told; THE TEXT is empty.");
    Run r = b.run();
    r.is(0, "count", 10);
    r.is(NONE, "fault");
    r.is(NO, "lay");
    r.is(NO, "undo");
    r.is(NO, "back");
    int[] counts = {7, 0, 7, 0, 1, 0, 0, 0, 0, 0, 0};
    for (int what = 0; what <= 10; what++) r.is(counts[what], "count", what);
    r.is(144, "rings", 0);
    for (int p = 0; p < 7; p++) r.is(15, "kinds", p);
    r.is(0, "forget");
    r.is(0, "wipe");
  }

  private void write() {
    b.promise(2, "A letter (32 to 126, as in ASCII) comes behind THE TEXT: how long it is.");
    Run r = b.run();
    int[] none = {31, 127, 0, -1, 128, 10, 9, 112 + 256, 112 + 65536, 112 - 65536, MIN, MAX};
    for (int letter : none) r.is(BAD, "write", letter);
    for (int letter = 32; letter <= 126; letter++) r.gives(letter - 31, "write", letter);
    r.is(95, "count", 10);
    b.promise(2, "BAD; FULL.");
    r = b.run().write("p".repeat(199));
    r.is(BAD, "write", 31);
    r.is(BAD, "write", 127);
    r.is(200, "write", 126);
    r.is(FULL, "write", 32);
    r.is(FULL, "write", 126);
    r.is(BAD, "write", 31);
    r.is(BAD, "write", 127);
  }

  private void wipe() {
    b.promise(3, "THE TEXT is empty: how long it was.");
    Run r = b.run();
    r.is(0, "wipe");
    r.make("write", '~');
    r.is(1, "wipe");
    r.is(0, "wipe");
    r.is(0, "count", 10);
    r.is(NONE, "fault");
    r.write(LEAST.repeat(18) + "p0");
    r.is(200, "wipe");
    r.is(0, "count", 10);
    // What was wiped does not stand behind what is written then.
    r.write("p0,0,1,0,0");
    r.is(0, "fault");
    r.is(11, "write", ';');
    r.is(NONE, "fault");
  }

  private void fault() {
    b.promise(4, "FAULT. NONE.");
    Run r = b.run();
    r.is(NONE, "fault");
    r.make("write", 'p');
    r.is(0, "fault");
    r.write("0,0,1,0,0;");
    r.is(NONE, "fault");
    r.make("write", 'p');
    r.is(11, "fault");
    r.make("wipe");
    r.is(NONE, "fault");
  }

  private void lay() {
    b.promise(5, "LAID: how many PERSONS;");
    for (int people = 1; people <= 7; people++) b.run().write(LEAST.repeat(people)).is(people, "lay");
    // Fewer than there were, and more.
    Run r = b.run(MOST).lay(LEAST.repeat(7));
    r.is(7, "count", 0);
    r.lay(MOST);
    r.is(1, "count", 0);
    r.is(BAD, "off", 1);
    b.promise(5, "DAY 0, no MEETINGS, nothing SEEN, TOLD, UNDONE, KEPT (THE TEXT stays).");
    r = b.run(LEAST + LEAST);
    for (int i = 1; i <= 9; i++) r.make("pass", 20);
    for (int i = 1; i <= 6; i++) {
      r.make("seen", 0, 0, 5);
      r.make("told", 0, i);
    }
    r.make("keep");
    r.make("keep");
    int[] full = {2, 180, 2, 1, 0, 180, 6, 6, 8, 2, 22};
    for (int what = 0; what <= 10; what++) r.is(full[what], "count", what);
    r.is(2, "lay");
    int[] empty = {2, 0, 2, 1, 0, 0, 0, 0, 0, 0, 22};
    for (int what = 0; what <= 10; what++) r.is(empty[what], "count", what);
    r.is(NO, "undo");
    r.is(NO, "back");
    r.is(15, "kinds", 0);
    r.is(144, "rings", 0);
    r.is(0, "forget");
    r.is(2, "lay");
    b.promise(5, "NO.");
    r.make("pass", 5);
    r.make("keep");
    r.make("pace", 0, 3);
    r.make("seen", 0, 0, 5);
    r.make("told", 0, 5);
    r.make("write", 'p');
    r.is(NO, "lay");
    r.make("wipe");
    r.is(NO, "lay");
  }

  private void person() {
    b.promise(6, "Of a PERSON: KIND (what = 0), DOOR (1; NONE: BROKEN OFF), WIDTH (2; NONE), YARD (3), PACE (4).");
    Run r = b.run(LEAST + MOST);
    int[] least = {0, 0, 1, 0, 0}, most = {3, 5, 9, 11, 11};
    for (int what = 0; what < 5; what++) {
      r.is(least[what], "person", 0, what);
      r.is(most[what], "person", 1, what);
    }
    r.make("off", 1);
    int[] off = {3, NONE, NONE, 11, 11};
    for (int what = 0; what < 5; what++) r.is(off[what], "person", 1, what);
    r.make("weave", 1, 0, 1);
    r.is(0, "person", 1, 1);
    r.is(1, "person", 1, 2);
    b.promise(6, "BAD.");
    int[] none = {-1, 5, MIN, MAX};
    for (int what : none) r.is(BAD, "person", 0, what);
    int[] nobody = {-1, 2, 7, MIN, MAX};
    for (int p : nobody) r.is(BAD, "person", p, 0);
  }

  private void near() {
    b.promise(7, "Of two: 2 they MEET, 1 they PASS, 0 neither.");
    Run r = b.run("p0,5,9,11,0;p1,5,9,11,0;p2,5,8,11,0;p3,4,9,11,0;p0,5,9,10,0;p0,5,9,0,0;p0,5,1,11,0;");
    int[] with0 = {BAD, 2, 1, 0, 0, 0, 1};
    for (int q = 0; q < 7; q++) {
      r.is(with0[q], "near", 0, q);
      r.is(with0[q], "near", q, 0);
    }
    b.promise(7, "BAD (alike, too).");
    for (int p = 0; p < 7; p++) r.is(BAD, "near", p, p);
    int[] nobody = {-1, 7, MIN, MAX};
    for (int p : nobody) {
      r.is(BAD, "near", p, 0);
      r.is(BAD, "near", 0, p);
      r.is(BAD, "near", p, p);
    }
    r = b.run(LEAST);
    r.is(BAD, "near", 0, 0);
    r.is(BAD, "near", 0, 1);
  }

  private void about() {
    b.promise(8, "Who goes about a DOOR, as bits.");
    Run r = b.run("p0,5,1,0,0;".repeat(7));
    r.is(127, "about", 5);
    for (int d = 0; d < 5; d++) r.is(0, "about", d);
    r.make("off", 0);
    r.is(126, "about", 5);
    r.make("off", 6);
    r.is(62, "about", 5);
    r.make("weave", 6, 0, 1);
    r.is(64, "about", 0);
    b.promise(8, "BAD.");
    // What stands for no door is none either.
    int[] none = {-1, 6, NONE, MIN, MAX};
    for (int d : none) r.is(BAD, "about", d);
  }
}
