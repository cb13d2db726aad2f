/** Bounds in the document's part 3 (what comes, what is best) and in promises 14 to 20. */
final class BoundsOfComing {
  private static final int BAD = Bounds.BAD, NO = Bounds.NO, NONE = Bounds.NONE;
  private static final int MIN = Bounds.MIN, MAX = Bounds.MAX;
  private static final String LEAST = Bounds.LEAST;
  private static final int[] NOBODY_OF_2 = {-1, 2, 7, MIN, MAX};
  private static final int[] NOBODY_OF_7 = {-1, 7, MIN, MAX};
  /**
   * Seven in one yard, each another width from 3 on. One that drops in with a pace of 0 goes a yard on
   * days 0, 3, 6, ..: it is in yard k first behind 3k - 2 days from day 0.
   */
  private static final String ALL_WIDTHS = "p0,0,3,0,0;p0,0,4,0,0;p0,0,5,0,0;p0,0,6,0,0;p0,0,7,0,0;p0,0,8,0,0;p0,0,9,0,0;";

  private final Bounds b;

  BoundsOfComing(Bounds bounds) {
    b = bounds;
  }

  void test() {
    beyondTheLastDay();
    behindDays();
    firstDays();
    allDays();
    pacesOfOne();
    shyWidths();
    spreadFewest();
    spreadFirstWay();
    dearDoor();
    behind();
    first();
    all();
    paces();
    shy();
    spread();
    dear();
  }

  // ---- the terms

  private void beyondTheLastDay() {
    b.term("From now on, nothing else being done (beyond the last that may go by, too).");
    // 333 yards further on day 999, 0 is in yard 0; 1 is in yard 8, 2 in yard 3; 999 by 3 leaves 0.
    Run r = b.run("p3,0,1,3,0;p0,0,1,8,0;p0,0,1,3,0;").till(999);
    r.is(0, "person", 0, 3);
    r.is(8, "behind", 60, 0);
    r.is(7, "behind", 57, 0);
    r.is(22, "first", 0, 1);
    r.is(7, "first", 2, 0);
    // In yard 3 behind 7, 8, 9, 43, 44, 45 days, in yard 8 behind 22, 23, 24, 58, 59, 60.
    r.is(12, "all", 60);
    r.is(3, "all", 21);
    r.is(4095, "paces", 0, 1, 24);
    r.is(128, "paces", 0, 1, 1);
    r.is(2, "shy", 0);
    r.is(2, "spread", 0, -1);
    r.is(1, "likely", 0, 2, 7, 0, 0);
    r.is(1, "likely", 0, 2, 7, 0, 1);
    r.is(1, "seen", 0, 24, 8);
    r.is(8, "kinds", 0);
    r.is(4095, "speeds", 0);
    // By 9999, person 1 of three has a pace of 4 (see the seasons): yards 1, 0 and 3.
    r.is(4, "season", 9999, 1, 2);
    r.is(NO, "pass", 1);
    r.is(999, "count", 1);
  }

  private void behindDays() {
    b.term("BEHIND n (0 to 60) DAYS: the YARD of a PERSON.");
    Run r = b.run("p3,0,1,0,0;p0,0,1,11,11;");
    r.is(BAD, "behind", -1, 0);
    r.is(0, "behind", 0, 0);
    r.is(1, "behind", 1, 0);
    r.is(7, "behind", 57, 0);
    r.is(8, "behind", 58, 0);
    r.is(8, "behind", 60, 0);
    r.is(BAD, "behind", 61, 0);
    // From day 1 on it goes on the third day, which is day 3.
    r.make("pass", 1);
    r.is(1, "behind", 0, 0);
    r.is(1, "behind", 2, 0);
    r.is(2, "behind", 3, 0);
    r.is(9, "behind", 60, 0);
    r.make("undo");
    r.is(11, "behind", 0, 1);
    r.is(10, "behind", 1, 1);
    r.is(11, "behind", 60, 1);
    r.is(0, "behind", 59, 1);
  }

  private void firstDays() {
    b.term("FIRST of two: behind how many DAYS (0 to 60) they MEET first; none.");
    b.run(LEAST + LEAST).is(0, "first", 0, 1);
    b.run("p0,0,1,11,1;p0,0,1,0,0;").is(1, "first", 0, 1);
    // 0 goes on even days, 1 on those that 3 divides: 0 gains its eleventh yard on day 62, from day 2 on the 61st.
    Run r = b.run("p1,0,1,0,1;p3,0,1,11,0;");
    r.make("off", 0);
    r.make("off", 1);
    r.make("pass", 2);
    r.make("weave", 0, 0, 1);
    r.make("weave", 1, 0, 1);
    r.is(NONE, "first", 0, 1);
    r.is(NONE, "first", 1, 0);
    r.is(0, "all", 60);
    r.is(0, "pass", 1);
    r.is(60, "first", 0, 1);
    r.is(60, "first", 1, 0);
    r.is(0, "all", 59);
    r.is(1, "all", 60);
    r.is(0, "pass", 1);
    r.is(59, "first", 0, 1);
    // They pass behind each day, and never meet.
    b.run("p0,0,1,0,0;p0,0,2,0,0;").is(NONE, "first", 0, 1);
    b.run("p0,0,1,0,0;p0,1,1,0,0;").is(NONE, "first", 0, 1);
    b.run("p0,0,1,0,0;p0,0,1,1,0;").is(NONE, "first", 0, 1);
  }

  private void allDays() {
    b.term("ALL in n (1 to 60) DAYS: how many MEETINGS.");
    // They meet behind 0, 12, 24, .. 60 days, of which 0 is none.
    Run r = b.run("p0,0,1,0,1;p0,0,1,0,0;");
    r.is(BAD, "all", 0);
    r.is(0, "all", 1);
    r.is(0, "all", 11);
    r.is(1, "all", 12);
    r.is(4, "all", 59);
    r.is(5, "all", 60);
    r.is(BAD, "all", 61);
    r.is(1, "pass", 12);
    // Those so far are not counted again.
    r.is(1, "all", 12);
    r = b.run(LEAST.repeat(7));
    r.is(21, "all", 1);
    r.is(1260, "all", 60);
    b.run(LEAST).is(0, "all", 60);
  }

  private void pacesOfOne() {
    b.term("PACES of a PERSON for another one and n (1 to 24): PACES (bits 0 to 11) with which, from now on,"
        + " it would MEET that one behind n DAYS (0: none).");
    // Behind a day one that drops in has gone its pace and 1 more, behind 24 days (any pace) 8 more.
    Run r = b.run("p3,0,1,0,5;p0,0,1,0,0;p0,0,1,1,0;p0,0,1,8,0;p0,0,1,7,0;");
    r.is(BAD, "paces", 0, 1, 0);
    r.is(2048, "paces", 0, 1, 1);
    r.is(1, "paces", 0, 2, 1);
    r.is(4095, "paces", 0, 3, 24);
    r.is(0, "paces", 0, 4, 24);
    r.is(BAD, "paces", 0, 3, 25);
    r.is(BAD, "paces", 0, 1, -1);
    // Twice a pace is never odd; both 3 and 9 make 6.
    r = b.run("p2,0,1,0,0;p0,0,1,11,0;p0,0,1,6,0;p0,0,2,6,0;p0,1,1,6,0;");
    r.is(0, "paces", 0, 1, 1);
    r.is(8 + 512, "paces", 0, 2, 1);
    r.is(0, "paces", 0, 3, 1);
    r.is(0, "paces", 0, 4, 1);
    // The pace that it has is one of them, if it is so, and its own place is where it is now.
    r = b.run("p1,0,1,11,11;p0,0,1,11,0;");
    r.is(1, "paces", 0, 1, 1);
    r.is(4095, "paces", 0, 1, 24);
    r.make("pass", 1);
    r.is(0, "paces", 0, 1, 1);
    r.is(2, "paces", 0, 1, 2);
    // For one that is broken off, and of one, there is none.
    r.make("off", 1);
    r.is(0, "paces", 0, 1, 24);
    r.is(0, "paces", 1, 0, 24);
  }

  private void shyWidths() {
    b.term("SHY of a PERSON that is not BROKEN OFF: the least WIDTH (1 to 9), at its DOOR,"
        + " on which it MEETS nobody behind 0, 1, .. 24 DAYS; none.");
    // They are in one yard now alone, not behind 1 to 24 days.
    b.run("p3,0,9,0,0;p0,0,1,0,0;").is(2, "shy", 0);
    b.run("p3,0,9,0,0;p0,0,1,0,0;").is(1, "shy", 1);
    b.run("p0,0,1,0,0;p3,0,9,0,0;").is(2, "shy", 1);
    // In one yard behind 25 days first; a day later behind 24 first.
    Run r = b.run("p3,0,9,0,0;p0,0,1,9,0;");
    r.is(1, "shy", 0);
    r.make("pass", 1);
    r.is(2, "shy", 0);
    // The widths of six others can be the lowest, so that 7 is the highest answer; or the highest.
    r = b.run("p0,0,9,0,0;p0,0,1,0,0;p0,0,2,0,0;p0,0,3,0,0;p0,0,4,0,0;p0,0,5,0,0;p0,0,6,0,0;");
    r.is(7, "shy", 0);
    r.is(1, "shy", 1);
    r.is(6, "shy", 6);
    b.run(ALL_WIDTHS).is(1, "shy", 0);
    // A width that is met nowhere is free, and so is one that is at another door, or broken off.
    r = b.run("p0,0,1,0,0;p0,0,1,0,0;p0,0,2,1,0;p0,1,2,0,0;p0,0,2,0,0;");
    r.is(3, "shy", 0);
    r.make("off", 4);
    r.is(2, "shy", 0);
    r.make("off", 1);
    r.is(1, "shy", 0);
    b.run(LEAST).is(1, "shy", 0);
    b.run("p3,5,9,11,11;").is(1, "shy", 0);
  }

  private void spreadFewest() {
    b.term("SPREAD of a DOOR: the fewest WIDTHS for those who go about it,"
        + " such that no two who are in one YARD behind any of 0 to 24 DAYS are as WIDE: how many;");
    // Nobody, one alone, all seven.
    Run r = b.run(LEAST.repeat(7));
    r.is(0, "spread", 5, -1);
    for (int p = 6; p >= 0; p--) {
      r.is(p + 1, "spread", 0, -1);
      r.make("off", p);
    }
    r.is(0, "spread", 0, -1);
    // In one yard now alone; behind 25 days first; a day later behind 24 first.
    b.run("p3,0,9,0,0;p0,0,1,0,0;").is(2, "spread", 0, -1);
    r = b.run("p3,0,9,0,0;p0,0,1,9,0;");
    r.is(1, "spread", 0, -1);
    r.make("pass", 1);
    r.is(2, "spread", 0, -1);
    // Nothing is left of what was asked ahead: two who were in one yard are apart then.
    r = b.run(LEAST + LEAST);
    r.is(2, "spread", 0, -1);
    r.make("pace", 1, 1);
    r.make("pass", 1);
    r.make("pace", 1, 0);
    r.is(1, "spread", 0, -1);
    // The widths that they have are nothing to it.
    b.run(ALL_WIDTHS).is(7, "spread", 0, -1);
    b.run("p0,0,9,0,0;p0,0,9,1,0;p0,0,9,11,0;").is(1, "spread", 0, -1);
  }

  private void spreadFirstWay() {
    b.term("of several ways the first (by that of the lowest PERSON, WIDTHS numbered from 1 as they are first used,"
        + " the lowest ahead, then the next, ..): the one of a PERSON.");
    Run r = b.run(ALL_WIDTHS);
    for (int p = 0; p < 7; p++) r.is(p + 1, "spread", 0, p);
    // Numbers go on from 1 without those who do not go about the door.
    r.make("off", 0);
    r.make("weave", 3, 5, 9);
    int[] five = {NONE, 1, 2, NONE, 3, 4, 5};
    for (int p = 0; p < 7; p++) r.is(five[p], "spread", 0, p);
    r.is(5, "spread", 0, -1);
    r.is(1, "spread", 5, 3);
    // 0 and 3, 1 and 2 are in one yard: the lowest have 1.
    r = b.run("p0,0,1,0,0;p0,0,1,1,0;p0,0,1,1,0;p0,0,1,0,0;p0,0,1,5,0;");
    int[] pairs = {1, 1, 2, 2, 1};
    for (int p = 0; p < 5; p++) r.is(pairs[p], "spread", 0, p);
    // 2 comes into 0's yard, 3 into 1's, and 2 and 3 are both in yard 3: two are enough, though not if 1
    // took the lowest that is free.
    r = b.run("p0,0,1,0,0;p0,0,1,1,0;p0,0,1,0,3;p0,0,1,1,2;");
    int[] path = {1, 2, 2, 1};
    for (int p = 0; p < 4; p++) r.is(path[p], "spread", 0, p);
    r.is(2, "spread", 0, -1);
  }

  private void dearDoor() {
    b.term("DEAR: the DOOR about which most go, of several the lowest; how many.");
    Run r = b.run("p0,5,1,0,0;".repeat(7));
    r.is(5, "dear", 0);
    r.is(7, "dear", 1);
    // 5 and 4 are gone about by three each, then 4 by four, then 0 to 5 by one each at most.
    for (int p = 0; p < 3; p++) r.make("weave", p, 4, 1);
    r.is(5, "dear", 0);
    r.is(4, "dear", 1);
    r.make("off", 6);
    r.is(4, "dear", 0);
    r.is(3, "dear", 1);
    r.make("weave", 6, 4, 1);
    r.is(4, "dear", 0);
    r.is(4, "dear", 1);
    for (int p = 0; p < 6; p++) r.make("weave", p, p, 1);
    r.make("off", 6);
    r.is(0, "dear", 0);
    r.is(1, "dear", 1);
    r.make("off", 0);
    r.is(1, "dear", 0);
    for (int p = 1; p < 6; p++) r.make("off", p);
    // Nobody goes about any: all are gone about by 0, the lowest is 0.
    r.is(0, "dear", 0);
    r.is(0, "dear", 1);
  }

  // ---- the promises

  private void behind() {
    b.promise(14, "BEHIND. BAD.");
    Run r = b.run(LEAST + LEAST);
    int[] none = {-1, 61, MIN, MAX};
    for (int n : none) r.is(BAD, "behind", n, 0);
    for (int p : NOBODY_OF_2) r.is(BAD, "behind", 0, p);
    r.is(0, "behind", 0, 0);
    r.is(0, "behind", 60, 1);
    r = b.run(LEAST.repeat(7));
    r.is(0, "behind", 60, 6);
    for (int p : NOBODY_OF_7) r.is(BAD, "behind", 0, p);
  }

  /** A call on two: nobody that there is not, and not one alone. Further arguments are in their bounds. */
  private void badTwos(String name, int... more) {
    for (int people : new int[] {1, 2, 7}) {
      Run r = b.run(LEAST.repeat(people));
      for (int p : new int[] {-1, people, 7, MIN, MAX}) {
        r.is(BAD, name, arguments(p, 0, more));
        r.is(BAD, name, arguments(0, p, more));
        r.is(BAD, name, arguments(p, p, more));
      }
      for (int p = 0; p < people; p++) r.is(BAD, name, arguments(p, p, more));
    }
  }

  private static int[] arguments(int p, int q, int... more) {
    int[] all = new int[2 + more.length];
    all[0] = p;
    all[1] = q;
    System.arraycopy(more, 0, all, 2, more.length);
    return all;
  }

  private void first() {
    b.promise(15, "FIRST. NONE; BAD (alike, too).");
    badTwos("first");
    Run r = b.run(LEAST.repeat(7));
    r.is(0, "first", 0, 6);
    r.is(0, "first", 6, 0);
    r.make("off", 6);
    r.is(NONE, "first", 0, 6);
    r.is(NONE, "first", 6, 0);
    // Alike is BAD, also where one would be none.
    r.is(BAD, "first", 6, 6);
  }

  private void all() {
    b.promise(16, "ALL. BAD.");
    Run r = b.run(LEAST + LEAST);
    r.make("pass", 1);
    for (int n = 1; n <= 60; n++) r.gives(n, "all", n);
    int[] none = {0, 61, -1, MIN, MAX};
    for (int n : none) r.is(BAD, "all", n);
    r.is(1, "count", 5);
  }

  private void paces() {
    b.promise(17, "PACES, as bits. BAD (alike, too).");
    badTwos("paces", 1);
    Run r = b.run(LEAST.repeat(7));
    r.is(4095, "paces", 0, 6, 12);
    r.is(4095, "paces", 6, 0, 24);
    r.is(1, "paces", 6, 0, 1);
    int[] none = {0, 25, -1, MIN, MAX};
    for (int n : none) r.is(BAD, "paces", 0, 6, n);
    r.make("off", 6);
    r.is(0, "paces", 0, 6, 24);
    for (int n : none) r.is(BAD, "paces", 0, 6, n);
    r.is(BAD, "paces", 6, 6, 24);
  }

  private void shy() {
    b.promise(18, "SHY. NONE; BAD; NO: BROKEN OFF.");
    // With seven at most there is always a width: never NONE, whichever widths they have.
    Run r = b.run(LEAST.repeat(7));
    for (int p = 0; p < 7; p++) r.is(2, "shy", p);
    for (int p : NOBODY_OF_7) r.is(BAD, "shy", p);
    r.make("off", 6);
    r.is(NO, "shy", 6);
    r.is(2, "shy", 5);
    for (int p : NOBODY_OF_7) r.is(BAD, "shy", p);
    r.make("weave", 6, 1, 1);
    r.is(1, "shy", 6);
    r = b.run(LEAST + LEAST);
    for (int p : NOBODY_OF_2) r.is(BAD, "shy", p);
  }

  private void spread() {
    b.promise(19, "SPREAD: how many (p = -1), the one of a PERSON (NONE: it does not go about that DOOR).");
    Run r = b.run(LEAST + "p0,5,1,0,0;");
    r.is(1, "spread", 0, -1);
    r.is(1, "spread", 0, 0);
    r.is(NONE, "spread", 0, 1);
    r.is(1, "spread", 5, 1);
    r.is(NONE, "spread", 5, 0);
    r.is(0, "spread", 3, -1);
    r.is(NONE, "spread", 3, 0);
    r.make("off", 0);
    r.is(NONE, "spread", 0, 0);
    r.is(0, "spread", 0, -1);
    b.promise(19, "BAD.");
    int[] nobody = {-2, 2, 7, NONE, MIN, MAX};
    for (int p : nobody) {
      r.is(BAD, "spread", 0, p);
      r.is(BAD, "spread", 3, p);
    }
    int[] none = {-1, 6, NONE, MIN, MAX};
    for (int d : none) {
      r.is(BAD, "spread", d, -1);
      r.is(BAD, "spread", d, 0);
    }
    r = b.run(LEAST.repeat(7));
    r.is(7, "spread", 0, 6);
    r.is(BAD, "spread", 0, 7);
    r.is(BAD, "spread", 0, -2);
  }

  private void dear() {
    b.promise(20, "DEAR: which (what = 0), how many (1).");
    Run r = b.run("p0,3,1,0,0;");
    r.is(3, "dear", 0);
    r.is(1, "dear", 1);
    b.promise(20, "BAD.");
    int[] none = {-1, 2, MIN, MAX};
    for (int what : none) r.is(BAD, "dear", what);
  }
}
