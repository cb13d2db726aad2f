/** Bounds in the document's part 4 (chances, seasons, towns kept) and in promises 28 to 32. */
final class BoundsOfSeasons {
  private static final int BAD = Bounds.BAD, NO = Bounds.NO, FULL = Bounds.FULL;
  private static final int MIN = Bounds.MIN, MAX = Bounds.MAX;
  private static final String LEAST = Bounds.LEAST;

  private final Bounds b;

  BoundsOfSeasons(Bounds bounds) {
    b = bounds;
  }

  void test() {
    daysOfLikely();
    restsOfLikely();
    lowestTerms();
    seasonsByZ();
    daysOfASeason();
    nothingChangesByASeason();
    drawnPerson();
    drawnWreath();
    drawnOff();
    drawnPace();
    draws();
    whatASeasonTells();
    whatIsKept();
    twoKept();
    likely();
    season();
    keep();
    back();
    count();
  }

  // ---- the terms

  private void chance(Run r, int n, int x, int above, int below) {
    r.is(above, "likely", 0, 1, n, x, 0);
    r.is(below, "likely", 0, 1, n, x, 1);
  }

  private void daysOfLikely() {
    b.term("LIKELY for a PERSON, another one and n (0 to 7):");
    // Behind 0 days they are where they are; behind 7 days, 7 yards on, if it never rests.
    chance(b.run(LEAST + LEAST), 0, 3, 1, 1);
    chance(b.run("p0,0,1,0,1;p0,0,1,1,0;"), 0, 3, 0, 1);
    chance(b.run("p0,0,1,0,1;p0,0,1,1,0;"), 1, 3, 7, 10);
    Run r = b.run("p0,0,1,0,1;p0,0,1,7,0;");
    chance(r, 6, 1, 0, 1);
    chance(r, 7, 1, 4782969, 10000000);
    r.is(BAD, "likely", 0, 1, -1, 1, 0);
    r.is(BAD, "likely", 0, 1, 8, 1, 0);
  }

  private void restsOfLikely() {
    b.term("the one stays in its YARD on each of the next n DAYS by x (0 to 10) of ten, for itself:");
    // By 0 of ten it goes as it does; by ten of ten it never goes.
    Run r = b.run("p0,0,1,0,1;p0,0,1,7,0;");
    chance(r, 7, 0, 1, 1);
    chance(r, 7, 10, 0, 1);
    chance(r, 7, 9, 1, 10000000);
    r.is(BAD, "likely", 0, 1, 7, -1, 0);
    r.is(BAD, "likely", 0, 1, 7, 11, 0);
    r = b.run("p0,0,1,0,1;p0,0,1,0,0;");
    chance(r, 7, 0, 0, 1);
    chance(r, 7, 1, 1, 10000000);
    chance(r, 7, 10, 1, 1);
    // The other one does not rest.
    r.is(0, "likely", 1, 0, 7, 10, 0);
    // Once round: 1 day of 6 yards twice, or none, from the last yard on.
    chance(b.run("p2,0,1,11,3;p0,0,1,11,0;"), 2, 5, 1, 2);
    // 12 yards on a day, resting or not; no yards at all.
    chance(b.run("p2,0,1,11,6;p0,0,1,11,0;"), 7, 3, 1, 1);
    chance(b.run("p3,0,1,11,11;p0,0,1,11,0;"), 1, 3, 1, 1);
    chance(b.run(LEAST + LEAST), 7, 3, 1, 1);
    // Of days 1 to 3 one that drops in goes a yard on the last.
    r = b.run("p3,0,1,11,0;p0,0,1,1,0;");
    r.make("pass", 1);
    chance(r, 2, 0, 0, 1);
    chance(r, 3, 0, 1, 1);
    chance(r, 3, 4, 3, 5);
    // What it would have gone on a day on which it rests is not made up for: mourning on day 0 alone of two.
    r = b.run("p1,0,1,0,1;p0,0,1,1,0;");
    chance(r, 1, 4, 3, 5);
    chance(r, 2, 4, 3, 5);
  }

  private void lowestTerms() {
    b.term("how likely they MEET behind them, in lowest terms.");
    Run r = b.run("p0,0,1,0,1;p0,0,1,1,0;");
    chance(r, 1, 5, 1, 2);
    chance(r, 1, 8, 1, 5);
    chance(r, 1, 9, 1, 10);
    chance(r, 2, 5, 1, 2);
    chance(r, 7, 5, 7, 128);
    // Never and surely.
    chance(r, 7, 10, 0, 1);
    chance(r, 1, 0, 1, 1);
    chance(b.run("p0,0,1,0,0;p0,0,2,0,0;"), 7, 3, 0, 1);
    chance(b.run("p0,0,1,0,0;p0,1,1,0,0;"), 0, 0, 0, 1);
    r = b.run(LEAST + LEAST);
    r.make("off", 0);
    chance(r, 7, 3, 0, 1);
    r.make("off", 1);
    chance(r, 0, 3, 0, 1);
  }

  /** DRAW of a day, 0 first. */
  private static int draw(int z, int day) {
    long x = 7919L * z + 6151L * day + 1;
    return (int) (x * x % 65521) / 2;
  }

  /** The lowest z whose first draw is for that person of as many, does that act, and has these modulo 6, 9 and 12. */
  private static int drawing(int people, int p, int act, int door, int wide, int pace) {
    for (int z = 0; z <= 9999; z++) {
      int draw = draw(z, 0);
      boolean so = draw % people == p && draw / 8 % 6 == act && (door < 0 || draw / 64 % 6 == door)
          && (wide < 0 || draw / 512 % 9 + 1 == wide) && (pace < 0 || draw / 64 % 12 == pace);
      if (so) return z;
    }
    throw new IllegalArgumentException("no such draw");
  }

  private void seasonsByZ() {
    b.term("A SEASON by z (0 to 9999)");
    // By 0 the first draw is 0: person 0 is woven at door 0, 1 wide.
    Run r = b.run("p0,5,9,0,0;p0,0,1,0,0;");
    r.is(BAD, "season", -1, 1, 0);
    r.is(1, "season", 0, 1, 0);
    // By 9999 x is 79182082, its square by 65521 leaves 51303 and the draw is 25651: a pace of 4.
    r = b.run(LEAST);
    r.is(4, "season", 9999, 1, 2);
    r.is(BAD, "season", 10000, 1, 2);
  }

  private void daysOfASeason() {
    b.term("of n (1 to 60) DAYS from now on");
    Run r = b.run(LEAST + LEAST);
    r.is(BAD, "season", 0, 0, 0);
    r.is(BAD, "season", 0, 61, 0);
    for (int n : new int[] {1, 2, 59, 60}) {
      play("p0,0,1,0,0;p0,0,1,0,0;", 0, 0, n);
      play("p3,0,1,11,11;p1,0,1,0,1;p2,5,9,5,6;", 0, 9999, n);
      // From the day on that it is, not from day 0.
      play("p3,0,1,11,11;p1,0,1,0,1;p3,5,9,5,6;", 1, 4321, n);
      play("p3,0,1,11,11;p1,0,1,0,1;p3,5,9,5,6;", 939, 77, n);
    }
  }

  /** Plays a season by acts on another object, whose answers are then due. */
  private void play(String town, int day, int z, int n) {
    Run played = b.run(town).till(day);
    int people = played.make("count", 0);
    int meetings = 0;
    for (int i = 0; i < n; i++) {
      int draw = draw(z, i);
      int p = draw % people;
      if (draw / 8 % 6 == 0) played.make("weave", p, draw / 64 % 6, draw / 512 % 9 + 1);
      if (draw / 8 % 6 == 1) played.make("off", p);
      if (draw / 8 % 6 == 2) played.make("pace", p, draw / 64 % 12);
      meetings += played.make("pass", 1);
    }
    int yards = 0;
    for (int p = 0; p < people; p++) yards += played.make("person", p, 3);
    Run r = b.run(town).till(day);
    r.is(meetings, "season", z, n, 0);
    r.is(played.make("count", 2), "season", z, n, 1);
    r.is(yards, "season", z, n, 2);
  }

  private void nothingChangesByASeason() {
    b.term("(nothing changes by it):");
    Run r = b.run("p0,0,1,11,1;p3,0,1,0,11;p1,5,9,0,1;");
    r.make("pass", 3);
    r.make("keep");
    r.make("pace", 0, 5);
    r.make("seen", 0, 1, 1);
    r.make("told", 1, 1);
    for (int z = 0; z <= 9999; z += 1111)
      for (int what = 0; what <= 2; what++) r.is(r.make("season", z, 60, what), "season", z, 60, what);
    r.is(3, "count", 1);
    r.is(2, "count", 8);
  }

  private void drawnPerson() {
    b.term("ahead of each, with PERSON DRAW modulo as many,");
    // The one drawn is broken off: the others go a yard each, from yard 0 on.
    for (int people = 1; people <= 7; people++)
      for (int p : new int[] {0, people - 1}) {
        StringBuilder town = new StringBuilder();
        for (int q = 0; q < people; q++) town.append("p0,0,1,0,").append(q == p ? 11 : 1).append(';');
        Run r = b.run(town.toString());
        int z = drawing(people, p, 1, -1, -1, -1);
        r.is(people - 1, "season", z, 1, 1);
        // It is broken off ahead of the day, so that it does not go its 11 yards.
        r.is(people - 1, "season", z, 1, 2);
      }
  }

  private void drawnWreath() {
    b.term("if (DRAW by 8, cut) modulo 6 is 0, its WREATH is WOVEN at DOOR (DRAW by 64, cut) modulo 6,"
        + " (DRAW by 512, cut) modulo 9 and 1 WIDE;");
    // 0 meets the one who is there, ahead of the day, and nobody if that one is a door or a width off.
    for (int door : new int[] {0, 5})
      for (int wide : new int[] {1, 9}) {
        int z = drawing(2, 0, 0, door, wide, -1);
        b.run("p0,2,5,0,0;p0," + door + "," + wide + ",0,0;").is(1, "season", z, 1, 0);
        b.run("p0,2,5,0,0;p0," + (5 - door) + "," + wide + ",0,0;").is(0, "season", z, 1, 0);
        b.run("p0,2,5,0,0;p0," + door + "," + (10 - wide) + ",0,0;").is(0, "season", z, 1, 0);
        // One that is broken off is woven anew, and one that is so stays so.
        Run r = b.run("p0,2,5,0,0;p0," + door + "," + wide + ",0,0;");
        r.make("off", 0);
        r.is(2, "season", z, 1, 1);
        b.run(("p0," + door + "," + wide + ",0,0;").repeat(2)).is(1, "season", z, 1, 0);
      }
    // All draws that weave a wreath for 0, so that those next to where a door or a width ends are among them.
    for (int z = 0; z <= 9999; z++) {
      int draw = draw(z, 0);
      if (draw % 2 == 0 && draw / 8 % 6 == 0)
        b.run("p0,0,1,0,0;p0," + draw / 64 % 6 + "," + (draw / 512 % 9 + 1) + ",0,0;").is(1, "season", z, 1, 0);
    }
  }

  private void drawnOff() {
    b.term("if 1, BROKEN OFF;");
    int z = drawing(2, 1, 1, -1, -1, -1);
    Run r = b.run(LEAST + LEAST);
    r.is(0, "season", z, 1, 0);
    r.is(1, "season", z, 1, 1);
    // One that is, is so still.
    r.make("off", 1);
    r.is(1, "season", z, 1, 1);
    r.make("off", 0);
    r.is(0, "season", z, 1, 1);
  }

  private void drawnPace() {
    b.term("if 2, its PACE is (DRAW by 64, cut) modulo 12,");
    for (int pace = 0; pace <= 11; pace++) {
      int z = drawing(1, 0, 2, -1, -1, pace);
      b.run("p0,0,1,0,5;").is(pace, "season", z, 1, 2);
      b.run("p0,0,1,11,5;").is((11 + pace) % 12, "season", z, 1, 2);
    }
    // By 3, 4 and 5 nothing is done.
    for (int act = 3; act <= 5; act++) {
      Run r = b.run("p0,0,1,11,5;");
      r.is(4, "season", drawing(1, 0, act, -1, -1, -1), 1, 2);
      r.is(1, "season", drawing(1, 0, act, -1, -1, -1), 1, 1);
    }
  }

  private void draws() {
    b.term("DRAW being ((x times x) modulo 65521) by 2, cut, x 7919 z, 6151 (the DAY of these, 0 first) and 1 together:");
    // x is 1 at least, for which the draw is 0 (1 by 2, cut); on the next day it is 6152: 41487 left, 20743 drawn.
    b.equal("the first draw of all", draw(0, 0), 0);
    b.equal("that of the next day", draw(0, 1), 20743);
    b.equal("that of day 0 by 9999", draw(9999, 0), 25651);
    // The DAY of these is 0 on whichever day the season begins.
    for (int day : new int[] {0, 1, 5, 998, 999}) {
      Run r = b.run("p0,5,9,0,0;p0,0,1,0,0;").till(day);
      r.is(1, "season", 0, 1, 0);
    }
    // The greatest x, 79544991, on the 60th day by 9999.
    play(LEAST, 0, 9999, 60);
    play("p0,0,1,0,1;p0,0,1,0,2;", 0, 9999, 60);
    play("p1,0,1,0,1;p3,0,1,0,2;p0,0,1,0,2;p0,0,1,0,2;p0,0,1,0,2;p0,0,1,0,2;p0,0,1,0,2;", 0, 9999, 60);
  }

  private void whatASeasonTells() {
    b.term("how many MEETINGS there were in it; how many go about a DOOR then; YARDS of all added.");
    // Meetings so far are none of its own; one that is broken off is in a yard, too.
    int nothing = drawing(7, 0, 3, -1, -1, -1);
    Run r = b.run("p0,0,1,11,0;".repeat(7));
    r.is(420, "pass", 20);
    r.is(21, "season", nothing, 1, 0);
    r.is(7, "season", nothing, 1, 1);
    r.is(77, "season", nothing, 1, 2);
    for (int p = 0; p < 7; p++) r.make("off", p);
    r.is(0, "season", nothing, 1, 0);
    r.is(0, "season", nothing, 1, 1);
    r.is(77, "season", nothing, 1, 2);
    b.run(LEAST).is(0, "season", drawing(1, 0, 3, -1, -1, -1), 1, 2);
  }

  private void whatIsKept() {
    b.term("KEPT is all as it stands, but THE TEXT and what is SEEN, TOLD:");
    Run r = b.run("p0,0,1,11,1;p0,0,1,0,0;");
    r.make("pass", 1);
    r.make("pace", 0, 11);
    r.make("seen", 0, 0, 0);
    r.make("told", 0, 0);
    r.is(1, "keep");
    int[] kept = {0, 0, 1, 0, 11};
    r.make("pass", 5);
    r.make("weave", 0, 5, 9);
    r.make("off", 1);
    r.make("pace", 0, 3);
    r.make("seen", 0, 0, 1);
    r.make("told", 1, 1);
    r.make("told", 2, 2);
    r.make("wipe");
    r.make("write", 'p');
    r.is(0, "back");
    for (int what = 0; what < 5; what++) r.is(kept[what], "person", 0, what);
    r.is(0, "person", 1, 1);
    r.is(1, "count", 1);
    r.is(1, "count", 5);
    r.is(2, "count", 6);
    r.is(3, "count", 7);
    r.is(1, "count", 10);
    // Nothing seen or told comes back, either.
    r.make("seen", 0, 0, 0);
    r.make("keep");
    r.make("forget");
    r.make("wipe");
    r.is(0, "back");
    r.is(0, "count", 6);
    r.is(0, "count", 7);
    r.is(0, "count", 10);
  }

  private void twoKept() {
    b.term("2 at most.");
    Run r = b.run(LEAST);
    r.is(1, "keep");
    r.make("pass", 1);
    r.is(2, "keep");
    r.make("pass", 1);
    r.is(FULL, "keep");
    r.is(2, "count", 9);
    r.is(1, "back");
    r.is(1, "count", 1);
    r.is(2, "keep");
    r.is(FULL, "keep");
    r.is(1, "back");
    r.is(0, "back");
    r.is(0, "count", 1);
    r.is(NO, "back");
  }

  // ---- the promises

  private void likely() {
    b.promise(28, "LIKELY: above (part = 0), below (1).");
    Run r = b.run("p0,0,1,0,1;p0,0,1,1,0;");
    r.is(3, "likely", 0, 1, 1, 7, 0);
    r.is(10, "likely", 0, 1, 1, 7, 1);
    b.promise(28, "BAD (alike, too).");
    for (int part : new int[] {-1, 2, MIN, MAX}) r.is(BAD, "likely", 0, 1, 1, 7, part);
    for (int x : new int[] {-1, 11, MIN, MAX}) r.is(BAD, "likely", 0, 1, 1, x, 0);
    for (int n : new int[] {-1, 8, MIN, MAX}) r.is(BAD, "likely", 0, 1, n, 7, 0);
    for (int people : new int[] {1, 2, 7}) {
      r = b.run(LEAST.repeat(people));
      for (int p : new int[] {-1, people, 7, MIN, MAX}) {
        r.is(BAD, "likely", p, 0, 0, 0, 0);
        r.is(BAD, "likely", 0, p, 0, 0, 1);
        r.is(BAD, "likely", p, p, 0, 0, 0);
      }
      for (int p = 0; p < people; p++) r.is(BAD, "likely", p, p, 0, 0, 0);
    }
    r.is(1, "likely", 0, 6, 0, 0, 0);
    r.is(1, "likely", 6, 0, 7, 10, 1);
  }

  private void season() {
    b.promise(29, "A SEASON: MEETINGS (what = 0), about a DOOR (1), YARDS (2).");
    int nothing = drawing(3, 0, 3, -1, -1, -1);
    Run r = b.run("p0,0,1,3,1;p0,0,1,4,0;p0,0,1,9,0;");
    r.make("off", 2);
    r.is(1, "season", nothing, 1, 0);
    r.is(2, "season", nothing, 1, 1);
    r.is(17, "season", nothing, 1, 2);
    b.promise(29, "BAD.");
    for (int z : new int[] {-1, 10000, MIN, MAX}) r.is(BAD, "season", z, 1, 0);
    for (int n : new int[] {0, 61, -1, MIN, MAX}) r.is(BAD, "season", 0, n, 0);
    for (int what : new int[] {-1, 3, MIN, MAX}) r.is(BAD, "season", 0, 1, what);
  }

  private void keep() {
    b.promise(30, "KEPT: how many. FULL.");
    Run r = b.run(LEAST);
    r.make("pace", 0, 5);
    r.is(1, "keep");
    r.is(2, "keep");
    r.is(FULL, "keep");
    r.make("pass", 1);
    r.is(FULL, "keep");
    // To keep is no act: nothing more can be undone by it, and to undo leaves what is kept.
    r.is(2, "count", 8);
    r.is(1, "undo");
    r.is(0, "undo");
    r.is(FULL, "keep");
    r.is(1, "back");
    r.is(5, "person", 0, 4);
  }

  private void back() {
    b.promise(31, "As KEPT last (it is KEPT no more then): how many are left; nothing is UNDONE then.");
    Run r = b.run(LEAST);
    r.make("pace", 0, 1);
    r.make("keep");
    r.make("pace", 0, 2);
    r.make("keep");
    for (int s = 3; s <= 11; s++) r.make("pace", 0, s);
    r.is(8, "count", 8);
    r.is(1, "back");
    r.is(2, "person", 0, 4);
    r.is(0, "count", 8);
    r.is(NO, "undo");
    r.is(1, "count", 9);
    r.make("pace", 0, 9);
    r.is(1, "count", 8);
    r.is(0, "back");
    r.is(1, "person", 0, 4);
    r.is(0, "count", 9);
    r.is(NO, "undo");
    // From the last day, too.
    r = b.run(LEAST);
    r.make("keep");
    r.till(999);
    r.is(0, "back");
    r.is(0, "count", 1);
    r.is(0, "pass", 20);
    b.promise(31, "NO.");
    r = b.run(LEAST);
    r.is(NO, "back");
    r.make("pace", 0, 1);
    r.is(NO, "back");
    r.is(1, "count", 8);
    r.make("keep");
    r.make("back");
    r.make("pace", 0, 2);
    r.is(NO, "back");
    r.is(2, "person", 0, 4);
  }

  private void count() {
    b.promise(32, "How many: 0 PERSONS, 1 the DAY, 2 who go about a DOOR, 3 two who MEET now, 4 two who PASS now,");
    Run r = b.run(LEAST);
    int[] least = {1, 0, 1, 0, 0, 0, 0, 0, 0, 0, 11};
    for (int what = 0; what <= 10; what++) r.is(least[what], "count", what);
    r.make("off", 0);
    r.is(0, "count", 2);
    r = b.run(LEAST.repeat(6) + "p0,0,2,0,0;").till(999);
    int[] most = {7, 999, 7, 15, 6, 14985};
    for (int what = 0; what <= 5; what++) r.is(most[what], "count", what);
    countMeetings();
    b.promise(32, "6 SEEN, 7 TOLD, 8 that can be UNDONE, 9 KEPT, 10 letters of THE TEXT.");
    r = b.run(LEAST);
    for (int i = 1; i <= 7; i++) {
      r.make("seen", 0, 0, 0);
      r.is(Math.min(6, i), "count", 6);
    }
    for (int i = 1; i <= 7; i++) {
      r.make("told", 0, 0);
      r.is(Math.min(6, i), "count", 7);
    }
    for (int i = 1; i <= 9; i++) {
      r.make("pace", 0, i);
      r.is(Math.min(8, i), "count", 8);
    }
    for (int i = 1; i <= 3; i++) {
      r.make("keep");
      r.is(Math.min(2, i), "count", 9);
    }
    r = b.run().write("p".repeat(199));
    r.is(199, "count", 10);
    r.make("write", 'p');
    r.is(200, "count", 10);
    r.make("write", 'p');
    r.is(200, "count", 10);
    b.promise(32, "BAD.");
    for (int what : new int[] {-1, 11, MIN, MAX}) r.is(BAD, "count", what);
  }

  private void countMeetings() {
    b.promise(32, "5 MEETINGS so far (those of what is UNDONE are none; behind back() as KEPT),");
    Run r = b.run(LEAST + LEAST);
    r.make("pass", 2);
    r.is(2, "count", 5);
    r.make("keep");
    r.make("pass", 20);
    r.is(22, "count", 5);
    r.make("off", 0);
    r.make("pass", 20);
    r.is(22, "count", 5);
    r.make("undo");
    r.make("undo");
    r.is(22, "count", 5);
    r.make("undo");
    r.is(2, "count", 5);
    r.make("undo");
    r.is(0, "count", 5);
    r.make("back");
    r.is(2, "count", 5);
  }
}
