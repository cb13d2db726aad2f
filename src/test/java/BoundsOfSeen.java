/** Bounds in the document's part 4 (what is seen, what is told) and in promises 21 to 27. */
final class BoundsOfSeen {
  private static final int BAD = Bounds.BAD, FULL = Bounds.FULL, NONE = Bounds.NONE;
  private static final int MIN = Bounds.MIN, MAX = Bounds.MAX;
  private static final String LEAST = Bounds.LEAST;
  private static final int[] NO_DAYS = {-1, 25, MIN, MAX};
  private static final int[] NO_YARD = {-1, 12, MIN, MAX};
  private static final int[] NOBODY_OF_2 = {-1, 2, 7, MIN, MAX};
  private static final int[] NOT_0_OR_1 = {-1, 2, MIN, MAX};

  private final Bounds b;

  BoundsOfSeen(Bounds bounds) {
    b = bounds;
  }

  void test() {
    sixSeen();
    whenSeen();
    kindsOfOne();
    paceOfOne();
    sixTold();
    whenTold();
    ringsOfAStranger();
    dayToLook();
    yardsToLookAt();
    seen();
    kinds();
    speeds();
    told();
    rings();
    look();
    forget();
  }

  // ---- the terms

  private void sixSeen() {
    b.term("SEEN (6 at most) is that");
    Run r = b.run(LEAST + LEAST);
    // Of two, and one of them more than once: all are counted together.
    for (int i = 1; i <= 5; i++) r.is(i, "seen", i % 2, i, 0);
    r.is(6, "seen", 1, 5, 0);
    r.is(FULL, "seen", 1, 5, 0);
    r.is(FULL, "seen", 0, 0, 11);
    r.is(6, "count", 6);
    // Only one that drops in would have left yard 0.
    r.is(7, "kinds", 0);
    r.is(6, "forget");
    r.is(1, "seen", 0, 0, 11);
    r.is(0, "kinds", 0);
  }

  private void whenSeen() {
    b.term("behind n (0 to 24) DAYS (from now on, whenever it is asked) a PERSON is in YARD y.");
    Run r = b.run("p3,0,1,0,0;" + LEAST);
    r.is(BAD, "seen", 0, -1, 0);
    r.is(BAD, "seen", 0, 25, 9);
    // Behind 0 days it is where it is, behind 24 days 8 yards further.
    r.is(1, "seen", 0, 0, 0);
    r.is(15, "kinds", 0);
    r.is(2, "seen", 0, 24, 8);
    r.is(8, "kinds", 0);
    // From now on, that is from the day of the question on: a day later it is elsewhere.
    r.make("pass", 1);
    r.is(0, "kinds", 0);
    r.make("undo");
    r.is(8, "kinds", 0);
    r = b.run("p3,0,1,11,0;");
    r.is(1, "seen", 0, 1, 0);
    r.is(8, "kinds", 0);
    r.make("pass", 1);
    // In yard 0 on day 1, on which nobody with a pace of 0 goes.
    r.is(15, "kinds", 0);
    r.make("pass", 2);
    r.is(7, "kinds", 0);
  }

  /** KINDS of one that is a BURR, in yard 0 with a pace of 3, by what is seen of it. */
  private void kindsBy(int want, int n, int y) {
    Run r = b.run("p2,0,1,0,3;");
    r.make("seen", 0, n, y);
    r.is(want, "kinds", 0);
    r.is(2, "person", 0, 0);
  }

  private void kindsOfOne() {
    b.term("KINDS of one (bits of 0 to 3), in place of its own, by which all that is SEEN of it would be so;");
    kindsBy(15, 0, 0);
    kindsBy(0, 0, 1);
    kindsBy(0, 0, 11);
    // Behind 2 days: 6, 3, 0 (12) and 7 yards; behind 24 days: none, none, none and 8.
    kindsBy(1, 2, 6);
    kindsBy(2, 2, 3);
    kindsBy(4, 2, 0);
    kindsBy(8, 2, 7);
    kindsBy(7, 24, 0);
    kindsBy(8, 24, 8);
    kindsBy(0, 24, 11);
    Run r = b.run("p0,0,1,0,3;p0,0,1,0,3;");
    r.is(15, "kinds", 0);
    for (int i = 0; i < 5; i++) r.make("seen", 0, 0, 0);
    r.is(15, "kinds", 0);
    // The last of six counts, and what is seen of another does not.
    r.make("seen", 0, 2, 7);
    r.is(8, "kinds", 0);
    r.is(15, "kinds", 1);
    // Broken off it stays where it is, of whichever kind.
    r.make("off", 0);
    r.is(0, "kinds", 0);
    r.make("forget");
    r.make("seen", 0, 24, 0);
    r.is(15, "kinds", 0);
  }

  private void paceOfOne() {
    b.term("PACE of one likewise (bits 0 to 11).");
    Run r = b.run("p0,0,1,0,5;p1,0,1,11,5;p2,0,1,0,5;p3,0,1,0,5;");
    for (int p = 0; p < 4; p++) r.is(4095, "speeds", p);
    for (int s = 0; s <= 11; s++) {
      r.make("seen", 0, 1, s);
      r.is(1 << s, "speeds", 0);
      r.make("forget");
    }
    // Mourning from yard 11 on; twice a pace; a pace and 1 more.
    r.make("seen", 1, 1, 11);
    r.make("seen", 2, 1, 10);
    r.make("seen", 3, 1, 0);
    r.is(1, "speeds", 1);
    r.is(32 + 2048, "speeds", 2);
    r.is(2048, "speeds", 3);
    r.make("seen", 2, 1, 11);
    r.is(0, "speeds", 2);
    r.make("seen", 3, 24, 8);
    r.is(2048, "speeds", 3);
    r.make("seen", 3, 24, 7);
    r.is(0, "speeds", 3);
    r.is(5, "person", 3, 4);
    r.make("forget");
    r.make("off", 3);
    r.make("seen", 3, 24, 0);
    r.is(4095, "speeds", 3);
    r.make("seen", 3, 24, 8);
    r.is(0, "speeds", 3);
  }

  private void sixTold() {
    b.term("TOLD (6 at most) is that");
    Run r = b.run(LEAST);
    for (int i = 1; i <= 6; i++) r.is(i, "told", 0, 3);
    r.is(FULL, "told", 0, 3);
    r.is(FULL, "told", 24, 11);
    r.is(6, "count", 7);
    r.is(12, "rings", 0);
    r.is(6, "forget");
    r.is(1, "told", 0, 3);
    // What is seen has room of its own.
    for (int i = 2; i <= 6; i++) r.make("told", 0, 3);
    r.is(1, "seen", 0, 0, 0);
    r.is(6, "count", 7);
  }

  private void whenTold() {
    b.term("behind n (0 to 24) DAYS (from now on, whenever it is asked) a stranger, a PLAIN one, is in YARD y.");
    Run r = b.run(LEAST);
    r.is(BAD, "told", -1, 0);
    r.is(BAD, "told", 25, 0);
    // Behind 24 days it is where it was, at any pace.
    r.is(1, "told", 24, 11);
    r.is(12, "rings", 0);
    r.is(132, "rings", 1);
    r.is(2, "told", 0, 11);
    r.is(12, "rings", 0);
    r.is(3, "told", 23, 0);
    r.is(1, "rings", 0);
    r.is(143, "rings", 1);
    // From now on, whenever it is asked, also on the last day.
    r.make("pass", 1);
    r.is(143, "rings", 1);
    r.till(999);
    r.is(1, "rings", 0);
    r.is(143, "rings", 1);
  }

  private void ringsOfAStranger() {
    b.term("RINGS: of YARDS now and PACES those by which all that is TOLD would be so: how many;"
        + " the first (by the YARD, then the PACE), 12 times the YARD, and the PACE; none.");
    Run r = b.run(LEAST);
    r.is(144, "rings", 0);
    r.is(0, "rings", 1);
    // The very first and the very last of all.
    r.make("told", 0, 0);
    r.is(12, "rings", 0);
    r.is(0, "rings", 1);
    r.make("told", 1, 11);
    r.is(1, "rings", 0);
    r.is(11, "rings", 1);
    r.make("forget");
    r.make("told", 0, 11);
    r.is(132, "rings", 1);
    r.make("told", 1, 10);
    r.is(143, "rings", 1);
    // By the yard ahead of the pace: in yard 0 with a pace of 11, not in yard 11 with one of 0.
    r.make("forget");
    r.make("told", 1, 11);
    r.is(12, "rings", 0);
    r.is(11, "rings", 1);
    // All six are so, or it is none.
    for (int i = 2; i <= 5; i++) r.make("told", 1, 11);
    r.is(12, "rings", 0);
    r.make("told", 1, 0);
    r.is(0, "rings", 0);
    r.is(NONE, "rings", 1);
  }

  /** LOOK, a thing being told: the day, and how many yards. */
  private void looksAt(int n, int y, int day) {
    Run r = b.run(LEAST);
    r.make("told", n, y);
    r.is(day, "look", 0);
    r.is(12, "look", 1);
  }

  private void dayToLook() {
    b.term("LOOK: of DAYS 0 to 12 from now that behind which those of RINGS are in most YARDS, of several the lowest;");
    // Nothing told: in all yards behind each day.
    Run r = b.run(LEAST);
    r.is(0, "look", 0);
    // All paces part them behind as many days as share no divisor with 12, counted from the one that is told.
    looksAt(0, 0, 1);
    looksAt(1, 11, 0);
    looksAt(3, 0, 2);
    looksAt(4, 0, 3);
    looksAt(9, 0, 2);
    looksAt(10, 5, 3);
    looksAt(12, 11, 1);
    looksAt(24, 11, 1);
    // One ring alone is in one yard behind each day.
    r.make("told", 0, 11);
    r.make("told", 1, 10);
    r.is(0, "look", 0);
    r.is(1, "look", 1);
  }

  private void yardsToLookAt() {
    b.term("how many YARDS (0 without RINGS: DAY 0).");
    Run r = b.run(LEAST);
    r.is(12, "look", 1);
    r.make("told", 0, 3);
    r.make("told", 4, 3);
    // Paces 0, 3, 6, 9.
    r.is(1, "look", 0);
    r.is(4, "look", 1);
    r.make("told", 2, 3);
    r.is(1, "look", 0);
    r.is(2, "look", 1);
    r.make("told", 1, 3);
    r.is(0, "look", 0);
    r.is(1, "look", 1);
    r.make("told", 1, 4);
    r.is(0, "rings", 0);
    r.is(0, "look", 0);
    r.is(0, "look", 1);
    r.make("forget");
    r.is(0, "look", 0);
    r.is(12, "look", 1);
  }

  // ---- the promises

  private void seen() {
    b.promise(21, "SEEN: how many. BAD; FULL.");
    Run r = b.run(LEAST + LEAST);
    seenThatIsBad(r);
    r.is(1, "seen", 0, 0, 0);
    r.is(2, "seen", 1, 24, 11);
    r.is(3, "seen", 1, 24, 11);
    for (int i = 4; i <= 6; i++) r.is(i, "seen", 0, 24, 0);
    r.is(FULL, "seen", 0, 24, 0);
    r.is(FULL, "seen", 1, 0, 11);
    seenThatIsBad(r);
    r.is(6, "count", 6);
    r = b.run(LEAST.repeat(7));
    r.is(1, "seen", 6, 24, 11);
    r.is(BAD, "seen", 7, 24, 11);
  }

  private void seenThatIsBad(Run r) {
    for (int p : NOBODY_OF_2) r.is(BAD, "seen", p, 0, 0);
    for (int n : NO_DAYS) r.is(BAD, "seen", 0, n, 0);
    for (int y : NO_YARD) r.is(BAD, "seen", 0, 0, y);
  }

  private void kinds() {
    b.promise(22, "KINDS, as bits. BAD.");
    Run r = b.run(LEAST + LEAST);
    r.is(15, "kinds", 0);
    r.is(15, "kinds", 1);
    for (int p : NOBODY_OF_2) r.is(BAD, "kinds", p);
    r.make("seen", 1, 0, 1);
    r.is(0, "kinds", 1);
    for (int p : NOBODY_OF_2) r.is(BAD, "kinds", p);
    r = b.run(LEAST.repeat(7));
    r.is(15, "kinds", 6);
    r.is(BAD, "kinds", 7);
  }

  private void speeds() {
    b.promise(23, "PACE, as bits. BAD.");
    Run r = b.run(LEAST + LEAST);
    r.is(4095, "speeds", 0);
    r.is(4095, "speeds", 1);
    for (int p : NOBODY_OF_2) r.is(BAD, "speeds", p);
    r.make("seen", 1, 0, 1);
    r.is(0, "speeds", 1);
    for (int p : NOBODY_OF_2) r.is(BAD, "speeds", p);
    r = b.run(LEAST.repeat(7));
    r.is(4095, "speeds", 6);
    r.is(BAD, "speeds", 7);
  }

  private void told() {
    b.promise(24, "TOLD: how many. BAD; FULL.");
    Run r = b.run(LEAST + LEAST);
    toldThatIsBad(r);
    r.is(1, "told", 0, 0);
    r.is(2, "told", 24, 11);
    r.is(3, "told", 24, 11);
    for (int i = 4; i <= 6; i++) r.is(i, "told", 24, 0);
    r.is(FULL, "told", 24, 0);
    r.is(FULL, "told", 0, 11);
    toldThatIsBad(r);
    r.is(6, "count", 7);
  }

  private void toldThatIsBad(Run r) {
    for (int n : NO_DAYS) r.is(BAD, "told", n, 0);
    for (int y : NO_YARD) r.is(BAD, "told", 0, y);
  }

  private void rings() {
    b.promise(25, "RINGS: how many (what = 0), the first (1; NONE).");
    Run r = b.run(LEAST);
    r.make("told", 0, 2);
    r.is(12, "rings", 0);
    r.is(24, "rings", 1);
    r.make("told", 0, 3);
    r.is(0, "rings", 0);
    r.is(NONE, "rings", 1);
    b.promise(25, "BAD.");
    for (int what : NOT_0_OR_1) r.is(BAD, "rings", what);
    r.make("forget");
    for (int what : NOT_0_OR_1) r.is(BAD, "rings", what);
  }

  private void look() {
    b.promise(26, "LOOK: which (what = 0), how many (1).");
    Run r = b.run(LEAST);
    r.make("told", 4, 0);
    r.is(3, "look", 0);
    r.is(12, "look", 1);
    b.promise(26, "BAD.");
    for (int what : NOT_0_OR_1) r.is(BAD, "look", what);
    r.make("told", 4, 1);
    r.is(0, "look", 1);
    for (int what : NOT_0_OR_1) r.is(BAD, "look", what);
  }

  private void forget() {
    b.promise(27, "Nothing is SEEN, TOLD: how many were, together.");
    Run r = b.run(LEAST);
    r.is(0, "forget");
    r.make("seen", 0, 0, 1);
    r.is(1, "forget");
    r.make("told", 0, 1);
    r.is(1, "forget");
    for (int i = 0; i < 6; i++) {
      r.make("seen", 0, 0, 1);
      r.make("told", 0, i);
    }
    r.is(0, "kinds", 0);
    r.is(0, "rings", 0);
    r.is(12, "forget");
    r.is(0, "count", 6);
    r.is(0, "count", 7);
    r.is(15, "kinds", 0);
    r.is(144, "rings", 0);
    r.is(0, "forget");
    r.is(1, "seen", 0, 0, 0);
    r.is(1, "told", 0, 0);
  }
}
