/** Bounds in the document's part 2 (days, meetings, acts) and in promises 9 to 13. */
final class BoundsOfActs {
  private static final int BAD = Bounds.BAD, NO = Bounds.NO, NONE = Bounds.NONE;
  private static final int MIN = Bounds.MIN, MAX = Bounds.MAX;
  private static final String LEAST = Bounds.LEAST;
  private static final int[] NOBODY_OF_2 = {-1, 2, 7, MIN, MAX};

  private final Bounds b;

  BoundsOfActs(Bounds bounds) {
    b = bounds;
  }

  void test() {
    plain();
    mourning();
    burr();
    droppingIn();
    allAtOnce();
    meetAndPass();
    meetings();
    woven();
    brokenOff();
    anotherPace();
    undone();
    undoneThoughNothingChanged();
    lastEight();
    pass();
    weave();
    off();
    pace();
    undo();
  }

  // ---- the terms

  /** One of that kind, yard and pace: where it is on each of the next days. */
  private void goes(int kind, int yard, int pace, int... yards) {
    Run r = b.run("p" + kind + ",0,1," + yard + "," + pace + ";");
    for (int day = 0; day < yards.length; day++) {
      r.is(yards[day], "behind", day + 1, 0);
    }
    for (int day = 0; day < yards.length; day++) {
      r.is(0, "pass", 1);
      r.is(yards[day], "person", 0, 3);
    }
  }

  private void plain() {
    b.term("On a DAY each goes round: a PLAIN one as many YARDS as its PACE;");
    goes(0, 0, 0, 0, 0, 0, 0);
    goes(0, 11, 0, 11, 11, 11, 11);
    goes(0, 10, 1, 11, 0, 1, 2);
    goes(0, 0, 11, 11, 10, 9, 8);
    goes(0, 11, 11, 10, 9, 8, 7);
  }

  private void mourning() {
    b.term("one that is MOURNING so many, but on even DAYS alone;");
    goes(1, 0, 0, 0, 0, 0, 0);
    goes(1, 11, 1, 0, 0, 1, 1, 2, 2);
    goes(1, 0, 11, 11, 11, 10, 10, 9, 9);
    // The last day on which it goes is 998: it has gone on 500 days then, and 500 by 12 leaves 8.
    Run r = b.run("p1,0,1,0,1;").till(998);
    r.is(7, "person", 0, 3);
    r.is(0, "pass", 1);
    r.is(8, "person", 0, 3);
    r.is(8, "behind", 1, 0);
    r.is(9, "behind", 2, 0);
  }

  private void burr() {
    b.term("a BURR twice as many;");
    goes(2, 0, 0, 0, 0, 0);
    goes(2, 11, 1, 1, 3, 5);
    goes(2, 5, 6, 5, 5, 5);
    goes(2, 0, 11, 10, 8, 6);
    // 11 and 22 together are twice round and 9.
    goes(2, 11, 11, 9, 7, 5);
  }

  private void droppingIn() {
    b.term("one that is DROPPING IN as many as a PLAIN one, and 1 more, if the DAY by 3 leaves 0.");
    goes(3, 11, 0, 0, 0, 0, 1, 1, 1, 2);
    goes(3, 0, 1, 2, 3, 4, 6, 7, 8, 10);
    // 11 and 1 more are once round.
    goes(3, 0, 11, 0, 11, 10, 10, 9, 8, 8);
    goes(3, 11, 11, 11, 10, 9, 9);
    // Day 999 leaves 0 again: 333 more yards till then, and 333 by 12 leaves 9.
    Run r = b.run("p3,0,1,0,0;").till(999);
    r.is(9, "person", 0, 3);
    r.is(10, "behind", 1, 0);
    r.is(10, "behind", 3, 0);
    r.is(11, "behind", 4, 0);
  }

  private void allAtOnce() {
    b.term("All at once; then the DAY is one more.");
    // Two who change places do not meet on the way; each goes by the day as it was ahead.
    Run r = b.run("p0,0,1,0,1;p0,0,1,1,11;p1,0,2,0,1;p3,0,3,0,0;");
    r.is(0, "count", 1);
    r.is(0, "pass", 1);
    r.is(1, "count", 1);
    int[] yards = {1, 0, 1, 1};
    for (int p = 0; p < 4; p++) r.is(yards[p], "person", p, 3);
    r.is(0, "pass", 1);
    r.is(2, "count", 1);
    int[] then = {2, 11, 1, 1};
    for (int p = 0; p < 4; p++) r.is(then[p], "person", p, 3);
    r.till(999);
    r.is(999, "count", 1);
  }

  private void meetAndPass() {
    b.term("Two MEET, if they go about one DOOR, as WIDE, and are in one YARD; they PASS, if so but not as WIDE.");
    // Beside 0: all as it is, one wider, one narrower, the next doors, the next yards.
    Run r = b.run("p0,2,2,0,0;p0,2,2,0,0;p0,2,3,0,0;p0,2,1,0,0;p0,3,2,0,0;p0,2,2,1,0;p0,2,2,11,0;");
    int[] with0 = {BAD, 2, 1, 1, 0, 0, 0};
    for (int q = 1; q < 7; q++) r.is(with0[q], "near", 0, q);
    r.is(1, "count", 3);
    // 0 with 2 and 3, 1 with 2 and 3, 2 with 3.
    r.is(5, "count", 4);
    r = b.run("p0,0,1,0,0;p0,5,1,0,0;p0,1,1,0,0;p0,4,1,0,0;");
    r.is(0, "count", 3);
    r.is(0, "count", 4);
    // All seven: 21 twos.
    r = b.run(LEAST.repeat(7));
    r.is(21, "count", 3);
    r.is(0, "count", 4);
    r = b.run("p0,0,1,0,0;p0,0,2,0,0;p0,0,3,0,0;p0,0,4,0,0;p0,0,5,0,0;p0,0,6,0,0;p0,0,7,0,0;");
    r.is(0, "count", 3);
    r.is(21, "count", 4);
    r = b.run(LEAST);
    r.is(0, "count", 3);
    r.is(0, "count", 4);
  }

  private void meetings() {
    b.term("MEETINGS are all MEETS of two, on each DAY as they are behind going round.");
    // They meet now and behind 12 days: now is none, as nobody went round to it; those who pass are none.
    Run r = b.run("p0,0,1,0,1;p0,0,1,0,0;p0,0,2,0,0;");
    r.is(1, "count", 3);
    r.is(0, "count", 5);
    r.is(0, "pass", 11);
    r.is(1, "pass", 1);
    r.is(1, "count", 5);
    r.is(0, "pass", 11);
    r.is(1, "pass", 12);
    r.is(2, "count", 5);
    r = b.run(LEAST.repeat(7));
    r.is(21, "pass", 1);
    r.is(420, "pass", 20);
    r.is(441, "count", 5);
    r.till(999);
    r.is(20979, "count", 5);
    r = b.run(LEAST).till(999);
    r.is(0, "count", 5);
  }

  private void woven() {
    b.term("A WREATH is WOVEN anew (DOOR and WIDTH; the YARD stays).");
    Run r = b.run("p3,0,1,11,11;p0,5,9,0,0;");
    r.is(2, "weave", 0, 5, 9);
    int[] then = {3, 5, 9, 11, 11};
    for (int what = 0; what < 5; what++) r.is(then[what], "person", 0, what);
    r.is(1, "weave", 0, 0, 9);
    r.is(11, "person", 0, 3);
    r.is(1, "weave", 0, 0, 1);
    r.is(11, "person", 0, 3);
    r.is(0, "count", 1);
    r.is(0, "count", 5);
  }

  private void brokenOff() {
    b.term("One is BROKEN OFF: that one goes about no DOOR any more, MEETS nobody, stays in its YARD till one is WOVEN anew.");
    Run r = b.run("p0,0,1,11,0;p2,0,1,11,11;p3,0,1,11,11;");
    r.is(2, "near", 1, 2);
    r.is(0, "off", 1);
    r.is(0, "off", 2);
    r.is(1, "about", 0);
    r.is(1, "count", 2);
    // In one yard with one who goes about a door, and with one who goes about none.
    r.is(0, "near", 0, 1);
    r.is(0, "near", 1, 0);
    r.is(0, "near", 1, 2);
    r.is(0, "count", 3);
    r.is(0, "count", 4);
    r.is(NONE, "first", 0, 1);
    r.is(NONE, "first", 1, 2);
    r.is(0, "all", 60);
    r.is(0, "paces", 1, 2, 24);
    r.is(0, "likely", 1, 2, 0, 0, 0);
    r.is(11, "behind", 60, 1);
    r.is(0, "pass", 20);
    r.is(11, "person", 1, 3);
    r.is(11, "person", 2, 3);
    r.make("off", 0);
    r.is(0, "count", 2);
    r.is(0, "count", 4);
    r.is(0, "pass", 20);
    // Woven anew it goes again, from the yard in which it stayed: two days of 22.
    r.is(1, "weave", 1, 0, 1);
    r.is(11, "person", 1, 3);
    r.is(0, "pass", 2);
    r.is(7, "person", 1, 3);
  }

  private void anotherPace() {
    b.term("A PACE may be another one.");
    Run r = b.run("p0,0,1,0,0;p2,0,1,0,11;");
    r.is(0, "pace", 0, 11);
    r.is(11, "pace", 1, 0);
    r.is(11, "person", 0, 4);
    r.is(0, "person", 1, 4);
    r.is(0, "person", 0, 3);
    r.is(0, "pass", 1);
    r.is(11, "person", 0, 3);
    r.is(0, "person", 1, 3);
    // One that is broken off may have another one, too, and goes by it when it is woven anew.
    r.make("off", 1);
    r.is(0, "pace", 1, 3);
    r.make("weave", 1, 0, 1);
    r.make("pass", 1);
    r.is(6, "person", 1, 3);
  }

  private void undone() {
    b.term("UNDONE is the latest of these, of pass() (all its DAYS at once;");
    Run r = b.run("p0,0,1,0,1;p0,0,1,0,0;");
    r.is(1, "pass", 20);
    r.is(0, "off", 1);
    r.is(1, "pace", 0, 11);
    r.is(2, "weave", 1, 0, 9);
    r.is(3, "undo");
    r.is(NONE, "person", 1, 1);
    r.is(2, "undo");
    r.is(1, "person", 0, 4);
    r.is(1, "undo");
    r.is(0, "person", 1, 1);
    r.is(1, "person", 1, 2);
    r.is(20, "count", 1);
    r.is(1, "count", 5);
    r.is(0, "undo");
    r.is(0, "count", 1);
    r.is(0, "count", 5);
    r.is(0, "person", 0, 3);
    // On the last day, too: the days can go by again then.
    r = b.run(LEAST).till(999);
    r.is(NO, "pass", 1);
    r.is(7, "undo");
    r.is(980, "count", 1);
    r.is(0, "pass", 19);
    r.is(NO, "pass", 1);
  }

  private void undoneThoughNothingChanged() {
    b.term("such by which nothing becomes another, too;");
    // Nobody goes: all is as it was but for the day.
    Run r = b.run(LEAST);
    r.is(0, "pass", 1);
    r.is(1, "count", 8);
    r.is(0, "undo");
    r.is(0, "count", 1);
    // Once round: all are where they were.
    r = b.run("p0,0,1,5,1;");
    r.make("off", 0);
    r.is(0, "pass", 12);
    r.is(2, "count", 8);
    r.is(1, "undo");
    r.is(0, "count", 1);
    r.is(NONE, "person", 0, 1);
    // A change there and back are two.
    r = b.run(LEAST);
    r.is(0, "pace", 0, 1);
    r.is(1, "pace", 0, 0);
    r.is(2, "count", 8);
    r.is(1, "undo");
    r.is(1, "person", 0, 4);
  }

  private void lastEight() {
    b.term("the last 8 can be).");
    Run r = b.run(LEAST);
    for (int s = 1; s <= 8; s++) {
      r.is(s - 1, "pace", 0, s);
      r.is(s, "count", 8);
    }
    r.is(8, "pace", 0, 9);
    r.is(8, "count", 8);
    for (int left = 7; left >= 0; left--) {
      r.is(left, "undo");
      r.is(left + 1, "person", 0, 4);
    }
    r.is(NO, "undo");
    r.is(1, "person", 0, 4);
    // What is undone makes room again, however often it went round.
    r = b.run(LEAST);
    for (int day = 1; day <= 30; day++) r.make("pass", 1);
    for (int left = 7; left >= 3; left--) r.is(left, "undo");
    r.is(25, "count", 1);
    for (int left = 4; left <= 8; left++) {
      r.make("pass", 2);
      r.is(left, "count", 8);
    }
    r.make("pass", 2);
    r.is(8, "count", 8);
    r.is(37, "count", 1);
    int[] days = {35, 33, 31, 29, 27, 25, 24, 23};
    for (int i = 0; i < 8; i++) {
      r.is(7 - i, "undo");
      r.is(days[i], "count", 1);
    }
    r.is(NO, "undo");
  }

  // ---- the promises

  private void pass() {
    b.promise(9, "n (1 to 20) DAYS go by: how many MEETINGS there are on them.");
    for (int n = 1; n <= 20; n++) {
      Run r = b.run(LEAST + LEAST);
      r.is(n, "pass", n);
      r.is(n, "count", 1);
      r.is(n, "count", 5);
      r.is(1, "count", 8);
    }
    b.promise(9, "BAD;");
    Run r = b.run(LEAST + LEAST);
    r.make("pass", 3);
    int[] none = {0, 21, -1, MIN, MAX};
    for (int n : none) r.is(BAD, "pass", n);
    r.is(1, "count", 8);
    b.promise(9, "NO: the DAY would be above 999.");
    for (int n = 1; n <= 20; n++) {
      r = b.run(LEAST).till(999 - n);
      r.is(0, "pass", n);
      r.is(999, "count", 1);
      r = b.run(LEAST).till(1000 - n);
      r.is(NO, "pass", n);
      r.is(1000 - n, "count", 1);
    }
    r = b.run(LEAST).till(999);
    r.is(NO, "pass", 1);
    r.is(NO, "pass", 20);
    for (int n : none) r.is(BAD, "pass", n);
    r.is(999, "count", 1);
  }

  private void weave() {
    b.promise(10, "WOVEN: how many go about that DOOR then.");
    Run r = b.run(LEAST.repeat(7));
    for (int p = 0; p < 7; p++) r.is(p + 1, "weave", p, 5, 9);
    r.is(1, "weave", 0, 0, 1);
    r.is(15, "count", 3);
    r.make("off", 1);
    r.is(2, "weave", 1, 0, 2);
    // At its own door it goes on being counted.
    r.is(2, "weave", 1, 0, 3);
    b.promise(10, "BAD; NO: it is so.");
    r = b.run("p0,0,1,0,0;p0,5,9,0,0;");
    r.make("pass", 1);
    r.is(NO, "weave", 0, 0, 1);
    r.is(NO, "weave", 1, 5, 9);
    for (int p : NOBODY_OF_2) r.is(BAD, "weave", p, 0, 2);
    int[] noDoor = {-1, 6, NONE, MIN, MAX};
    for (int d : noDoor) r.is(BAD, "weave", 0, d, 1);
    int[] noWidth = {0, 10, -1, NONE, MIN, MAX};
    for (int w : noWidth) r.is(BAD, "weave", 0, 0, w);
    r.is(BAD, "weave", 0, NONE, NONE);
    // One that is broken off is not so, even with the wreath that it had.
    r.make("off", 0);
    r.is(BAD, "weave", 0, NONE, NONE);
    r.is(1, "weave", 0, 0, 1);
    r.is(NO, "weave", 0, 0, 1);
    r.is(1, "weave", 0, 0, 2);
    r.is(2, "weave", 0, 5, 2);
  }

  private void off() {
    b.promise(11, "BROKEN OFF: the DOOR.");
    for (int d = 0; d <= 5; d++) b.run("p0," + d + ",1,0,0;").is(d, "off", 0);
    Run r = b.run(LEAST.repeat(7));
    for (int p = 0; p < 7; p++) {
      r.is(0, "off", p);
      r.is(6 - p, "count", 2);
    }
    b.promise(11, "BAD; NO: it is.");
    r = b.run(LEAST + LEAST);
    for (int p : NOBODY_OF_2) r.is(BAD, "off", p);
    r.make("off", 1);
    r.is(NO, "off", 1);
    r.is(NO, "off", 1);
    for (int p : NOBODY_OF_2) r.is(BAD, "off", p);
    r.is(1, "count", 8);
    r.make("weave", 1, 3, 3);
    r.is(3, "off", 1);
  }

  private void pace() {
    b.promise(12, "A PACE of s: what it was.");
    Run r = b.run(LEAST);
    for (int s = 1; s <= 11; s++) r.is(s - 1, "pace", 0, s);
    r.is(11, "pace", 0, 0);
    r.is(0, "person", 0, 4);
    b.promise(12, "BAD; NO: it is that.");
    r = b.run("p0,0,1,0,0;p0,0,1,0,11;");
    r.make("pass", 1);
    r.is(NO, "pace", 0, 0);
    r.is(NO, "pace", 1, 11);
    int[] none = {-1, 12, MIN, MAX};
    for (int s : none) r.is(BAD, "pace", 0, s);
    for (int p : NOBODY_OF_2) r.is(BAD, "pace", p, 5);
    r.is(1, "count", 8);
    r.make("off", 1);
    r.is(NO, "pace", 1, 11);
  }

  private void undo() {
    b.promise(13, "UNDONE: how many more can be. NO.");
    Run r = b.run(LEAST);
    r.is(NO, "undo");
    r.make("pace", 0, 1);
    r.is(0, "undo");
    r.is(NO, "undo");
    // What is refused, and what is no act, cannot be undone.
    r.make("seen", 0, 0, 0);
    r.make("told", 0, 0);
    r.make("keep");
    r.make("write", 'p');
    r.make("pace", 0, 0);
    r.make("weave", 0, 0, 1);
    r.make("pass", 21);
    r.make("off", 1);
    r.is(NO, "undo");
    r.make("forget");
    r.make("wipe");
    r.is(NO, "undo");
    r.make("off", 0);
    r.make("off", 0);
    r.is(1, "count", 8);
    r.is(0, "undo");
    r.is(0, "person", 0, 1);
  }
}
