/** Promises 28 and 29: likely, season. */
public final class ChancesTest {
  private static final Due due = new Due("ChancesTest");
  private static final int BAD = WreathOrbits.BAD;
  private static final int MIN = Integer.MIN_VALUE, MAX = Integer.MAX_VALUE;

  public static void main(String[] args) {
    promise28();
    promise29();
    due.end();
  }

  private static void chance(String what, WreathOrbits x, int[] call, int above, int below) {
    due.is(what + ": above", x.likely(call[0], call[1], call[2], call[3], 0), above);
    due.is(what + ": below", x.likely(call[0], call[1], call[2], call[3], 1), below);
  }

  private static void promise28() {
    WreathOrbits x = Due.town("p0,0,1,0,1;p0,0,1,2,0;p0,0,1,0,0;p0,0,2,0,0;p0,1,1,0,0;");
    chance("two of three days", x, new int[] {0, 1, 3, 5}, 3, 8);
    chance("two of three days, by 3 of ten", x, new int[] {0, 1, 3, 3}, 441, 1000);
    chance("no day goes by, apart", x, new int[] {0, 1, 0, 5}, 0, 1);
    chance("no day goes by, together", x, new int[] {0, 2, 0, 5}, 1, 1);
    chance("it never goes", x, new int[] {0, 2, 7, 10}, 1, 1);
    chance("it always goes", x, new int[] {0, 1, 2, 0}, 1, 1);
    chance("it always goes, too far", x, new int[] {0, 1, 3, 0}, 0, 1);
    chance("the other one does not rest", x, new int[] {1, 0, 2, 9}, 1, 1);
    chance("seven days, by 3 of ten", x, new int[] {0, 2, 7, 3}, 2187, 10000000);
    chance("one that passes", x, new int[] {0, 3, 7, 3}, 0, 1);
    chance("one about another door", x, new int[] {0, 4, 7, 3}, 0, 1);
    x.off(2);
    chance("one broken off", x, new int[] {0, 2, 7, 3}, 0, 1);
    chance("broken off itself", x, new int[] {2, 0, 7, 3}, 0, 1);
    // Mourning on day 0 alone of two; dropping in goes 2, then 1; a burr goes twice.
    WreathOrbits y = Due.town("p1,0,1,0,1;p3,0,1,0,1;p2,0,1,0,1;p0,0,1,1,0;p0,0,1,2,0;p0,0,1,3,0;");
    chance("mourning", y, new int[] {0, 3, 2, 4}, 3, 5);
    chance("dropping in, day 1 alone", y, new int[] {1, 3, 2, 4}, 6, 25);
    chance("dropping in, both days", y, new int[] {1, 5, 2, 4}, 9, 25);
    chance("burr, one of two days", y, new int[] {2, 4, 2, 4}, 12, 25);
    y.pass(1);
    // On day 1 one that is mourning stays: it is in 1 and so is 3.
    chance("mourning from day 1 on", y, new int[] {0, 3, 1, 4}, 1, 1);
    // Days 1, 2 and 3: one that drops in goes 1, 1 and 2.
    chance("dropping in from day 1 on, 4 yards", droppingInOnDay1(), new int[] {0, 1, 3, 5}, 1, 8);
    chance("dropping in from day 1 on, 2 yards", droppingInOnDay1(), new int[] {0, 2, 3, 5}, 1, 4);
    int[][] bad = {{0, 0, 1, 1, 0}, {-1, 0, 1, 1, 0}, {0, -1, 1, 1, 0}, {6, 0, 1, 1, 0}, {0, 6, 1, 1, 0}, {0, 1, -1, 1, 0}, {0, 1, 8, 1, 0},
        {0, 1, 1, -1, 0}, {0, 1, 1, 11, 0}, {0, 1, 1, 1, -1}, {0, 1, 1, 1, 2}, {MIN, 1, 1, 1, 0}, {0, MAX, 1, 1, 0}, {0, 1, MAX, 1, 0}, {0, 1, 1, MIN, 0}, {0, 1, 1, 1, MAX}};
    for (int[] b : bad) due.is("likely(" + b[0] + ", " + b[1] + ", " + b[2] + ", " + b[3] + ", " + b[4] + ")", y.likely(b[0], b[1], b[2], b[3], b[4]), BAD);
  }

  private static WreathOrbits droppingInOnDay1() {
    WreathOrbits x = Due.town("p3,0,1,10,1;p0,0,1,4,0;p0,0,1,2,0;");
    x.pass(1);
    return x;
  }

  private static void promise29() {
    String before = Due.state(new WreathOrbits());
    int[] draws = {0, 1, 7, 77, 500, 1234, 4321, 9998, 9999};
    int[] days = {1, 2, 9, 30, 59, 60};
    for (int start = 0; start < 3; start++)
      for (int z : draws)
        for (int n : days) playSeason("p0,0,3,0,1;p1,0,3,6,2;p2,0,3,4,5;p3,1,2,9,1;p0,1,2,3,7;p2,1,5,3,1;p1,4,1,0,0;", start, z, n);
    for (int z = 0; z < 300; z++) playSeason("p3,2,1,5,4;", 0, z, 7);
    // Two who stay in one yard at one door meet by their widths alone.
    for (int z = 0; z < 1000; z++) playSeason("p0,0,1,0,0;p0,0,1,0,0;", 0, 3 * z, 40);
    WreathOrbits x = new WreathOrbits();
    x.season(5, 60, 0);
    due.same("season() on a new object", Due.state(x), before);
    int[][] bad = {{-1, 1, 0}, {10000, 1, 0}, {0, 0, 0}, {0, 61, 0}, {0, 1, -1}, {0, 1, 3}, {MIN, 1, 0}, {0, MAX, 0}, {0, 1, MIN}};
    for (int[] b : bad) due.is("season(" + b[0] + ", " + b[1] + ", " + b[2] + ")", x.season(b[0], b[1], b[2]), BAD);
  }

  /** Plays the season by acts on another object with the same town, whose answers are then due. */
  private static void playSeason(String text, int start, int z, int n) {
    WreathOrbits played = started(text, start);
    int people = played.count(0);
    int meetings = 0;
    for (int i = 0; i < n; i++) {
      long t = 7919L * z + 6151L * i + 1;
      int draw = (int) ((t * t) % 65521) / 2;
      int p = draw % people;
      int what = (draw / 8) % 6;
      if (what == 0) played.weave(p, (draw / 64) % 6, (draw / 512) % 9 + 1);
      if (what == 1) played.off(p);
      if (what == 2) played.pace(p, (draw / 64) % 12);
      meetings += played.pass(1);
    }
    int yards = 0;
    for (int p = 0; p < people; p++) yards += played.person(p, 3);
    WreathOrbits x = started(text, start);
    String call = "season(" + z + ", " + n + ") on day " + x.count(1);
    due.is(call + ": meetings", x.season(z, n, 0), meetings);
    due.is(call + ": about a door", x.season(z, n, 1), played.count(2));
    due.is(call + ": yards", x.season(z, n, 2), yards);
  }

  /** A town in which some days have gone by, and as many people are broken off. */
  private static WreathOrbits started(String text, int start) {
    WreathOrbits x = Due.town(text);
    for (int p = 0; p < start; p++) {
      x.pass(p + 1);
      x.off(p);
    }
    return x;
  }
}
