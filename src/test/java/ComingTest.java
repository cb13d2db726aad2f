/** Promises 14 to 20: behind, first, all, paces, shy, spread, dear. */
public final class ComingTest {
  private static final Due due = new Due("ComingTest");
  private static final int BAD = WreathOrbits.BAD, NO = WreathOrbits.NO, NONE = WreathOrbits.NONE;
  private static final int MIN = Integer.MIN_VALUE, MAX = Integer.MAX_VALUE;

  public static void main(String[] args) {
    promise14();
    promise15();
    promise16();
    promise17();
    promise18();
    promise19();
    promise20();
    due.end();
  }

  private static void promise14() {
    WreathOrbits x = new WreathOrbits();
    for (int p = 0; p < 7; p++) {
      x = new WreathOrbits();
      x.pass(1);
      x.off(4);
      String before = Due.state(x);
      int[] asked = new int[61];
      for (int n = 0; n <= 60; n++) asked[n] = x.behind(n, p);
      due.same("behind()", Due.state(x), before);
      for (int n = 0; n <= 60; n++) {
        due.is("behind(" + n + ", " + p + ")", asked[n], x.person(p, 3));
        x.pass(1);
      }
    }
    int[][] bad = {{-1, 0}, {61, 0}, {0, -1}, {0, 7}, {MIN, 0}, {MAX, 0}, {0, MIN}, {0, MAX}};
    for (int[] b : bad) due.is("behind(" + b[0] + ", " + b[1] + ")", x.behind(b[0], b[1]), BAD);
    // Days beyond the last one go by in questions.
    x = Due.town("p0,0,1,0,1;");
    for (int i = 0; i < 49; i++) x.pass(20);
    x.pass(19);
    due.is("behind(60, 0) on day 999", x.behind(60, 0), (999 + 60) % 12);
  }

  private static void promise15() {
    WreathOrbits x = Due.town("p0,0,1,0,1;p0,0,1,0,0;p0,0,1,11,0;p0,0,2,5,0;p0,1,1,6,0;");
    due.is("first(0, 1), now", x.first(0, 1), 0);
    due.is("first(0, 2)", x.first(0, 2), 11);
    due.is("first(2, 0)", x.first(2, 0), 11);
    due.is("first(0, 3), who pass", x.first(0, 3), NONE);
    due.is("first(0, 4), other door", x.first(0, 4), NONE);
    due.is("first(1, 2), who stay", x.first(1, 2), NONE);
    x.off(0);
    due.is("first(0, 1), broken off", x.first(0, 1), NONE);
    // With a pace of 0, one that drops in goes a yard on days 0, 3, 6, ..
    x = Due.town("p3,0,1,0,0;p0,0,1,7,0;");
    due.is("first() behind 19 days", x.first(0, 1), 19);
    due.is("first() behind 60 days", Due.town("p1,0,1,0,11;p3,0,1,10,11;").first(0, 1), 60);
    x = Due.town("p1,0,1,0,1;p3,0,1,11,0;");
    stayTill(2, x);
    due.is("first() behind 61 days", x.first(0, 1), NONE);
    x.pass(1);
    due.is("first() behind 60 days, a day later", x.first(0, 1), 60);
    x = Due.town("p3,0,1,0,4;p0,0,1,8,4;p0,0,1,9,4;");
    due.is("gains 8 yards", x.first(0, 1), 22);
    due.is("gains 9 yards", x.first(0, 2), 25);
    firstIsWhatComes();
    x = new WreathOrbits();
    int[][] bad = {{0, 0}, {-1, 0}, {0, -1}, {7, 0}, {0, 7}, {MIN, 0}, {0, MAX}};
    for (int[] b : bad) due.is("first(" + b[0] + ", " + b[1] + ")", x.first(b[0], b[1]), BAD);
    due.is("first() on day 999 looks on", lastDay("p0,0,1,0,1;p0,0,1,2,0;").first(0, 1), 11);
  }

  /** For many twos: nobody meets ahead of first(), and behind none of 60 days if there is none. */
  private static void firstIsWhatComes() {
    for (int k = 0; k < 4; k++)
      for (int y = 0; y < 12; y++)
        for (int s = 0; s < 12; s++) {
          WreathOrbits x = Due.town("p3,0,1,0,0;p" + k + ",0,1," + y + "," + s + ";");
          int n = x.first(0, 1);
          if (n == NONE) {
            for (int day = 1; day <= 60; day++) due.is("nobody meets by day " + day, x.pass(1), 0);
          } else if (n > 0) {
            due.is("all() ahead of first()", n == 1 ? 0 : x.all(n - 1), 0);
            due.is("all() by first()", x.all(n), 1);
          }
        }
  }

  /** Days go by while both are broken off, so that they stay in their yards. */
  private static void stayTill(int day, WreathOrbits x) {
    x.off(0);
    x.off(1);
    x.pass(day);
    x.weave(0, 0, 1);
    x.weave(1, 0, 1);
  }

  private static WreathOrbits lastDay(String text) {
    WreathOrbits x = Due.town(text);
    for (int i = 0; i < 49; i++) x.pass(20);
    x.pass(19);
    return x;
  }

  private static void promise16() {
    WreathOrbits x = Due.town("p0,0,1,0,0;p0,0,1,0,0;p0,0,1,0,1;");
    due.is("all(1)", x.all(1), 1);
    due.is("all(12)", x.all(12), 14);
    due.is("all(60)", x.all(60), 70);
    due.is("all() changes no meetings", x.count(5), 0);
    due.is("all() changes no day", x.count(1), 0);
    int[] bad = {0, 61, -1, MIN, MAX};
    for (int n : bad) due.is("all(" + n + ")", x.all(n), BAD);
    x = new WreathOrbits();
    for (int n = 1; n <= 20; n++) {
      int asked = x.all(n);
      due.is("all(" + n + ") as it comes", asked, x.pass(n));
    }
    due.is("all(60) on day 999", lastDay("p0,0,1,0,0;p0,0,1,0,0;").all(60), 60);
  }

  private static void promise17() {
    WreathOrbits x = new WreathOrbits();
    due.is("paces(0, 1, 1)", x.paces(0, 1, 1), 256);
    due.is("paces() of one with another door", x.paces(6, 0, 1), 0);
    due.is("paces() of one with another width", x.paces(3, 5, 1), 0);
    x.off(1);
    due.is("paces() for one broken off", x.paces(0, 1, 1), 0);
    due.is("paces() of one broken off", x.paces(1, 0, 1), 0);
    x = Due.town("p0,0,1,0,0;p1,0,1,0,0;p2,0,1,0,0;p3,0,1,0,0;p0,0,1,4,0;");
    due.is("plain, 2 days", x.paces(0, 4, 2), 1 << 2 | 1 << 8);
    due.is("mourning, 2 days", x.paces(1, 4, 2), 1 << 4);
    due.is("burr, 2 days", x.paces(2, 4, 2), 1 << 1 | 1 << 4 | 1 << 7 | 1 << 10);
    due.is("dropping in, 2 days", x.paces(3, 4, 2), 0);
    due.is("dropping in, 1 day", x.paces(3, 4, 1), 1 << 3);
    due.is("plain, 24 days", x.paces(0, 1, 24), 4095);
    due.is("burr, 1 day, none", Due.town("p2,0,1,0,0;p0,0,1,3,0;").paces(0, 1, 1), 0);
    int[][] bad = {{0, 0, 1}, {-1, 0, 1}, {0, -1, 1}, {5, 0, 1}, {0, 5, 1}, {0, 1, 0}, {0, 1, 25}, {MIN, 0, 1}, {0, MAX, 1}, {0, 1, MIN}};
    for (int[] b : bad) due.is("paces(" + b[0] + ", " + b[1] + ", " + b[2] + ")", x.paces(b[0], b[1], b[2]), BAD);
  }

  private static void promise18() {
    WreathOrbits x = Due.town("p0,0,9,0,0;p0,0,1,0,0;p0,0,2,0,0;p0,0,3,0,0;p0,0,5,0,0;p0,1,4,0,0;p0,0,4,1,0;");
    due.is("shy(0)", x.shy(0), 4);
    due.is("shy(1), its own width is free", x.shy(1), 1);
    due.is("shy(5), alone", x.shy(5), 1);
    due.is("shy(6), who is apart", x.shy(6), 1);
    due.is("shy(1), whom 0 meets", Due.town("p0,0,1,0,0;p0,0,5,0,0;").shy(1), 2);
    x.off(1);
    due.is("shy(0), 1 broken off", x.shy(0), 1);
    due.is("shy(1), broken off", x.shy(1), NO);
    x = Due.town("p0,0,9,0,0;p0,0,1,0,0;p0,0,2,0,0;p0,0,3,0,0;p0,0,4,0,0;p0,0,5,0,0;p0,0,6,0,0;");
    due.is("shy(0) among all", x.shy(0), 7);
    // One who comes behind 24 days counts; behind 25 not.
    due.is("met behind 22 days", Due.town("p3,0,9,0,0;p0,0,1,8,0;").shy(0), 2);
    due.is("met behind 25 days", Due.town("p3,0,9,0,0;p0,0,1,9,0;").shy(0), 1);
    WreathOrbits y = Due.town("p3,0,9,0,0;p0,0,1,9,0;");
    y.pass(1);
    due.is("met behind 24 days", y.shy(0), 2);
    int[] bad = {-1, 7, MIN, MAX};
    for (int p : bad) due.is("shy(" + p + ")", x.shy(p), BAD);
  }

  private static void promise19() {
    WreathOrbits x = Due.town("p0,0,9,0,0;p0,0,9,0,0;p0,0,8,0,0;p0,0,7,0,0;p0,0,7,0,0;p0,0,7,0,0;p0,0,7,0,0;");
    due.is("seven in one yard", x.spread(0, -1), 7);
    for (int p = 0; p < 7; p++) due.is("seven in one yard, " + p, x.spread(0, p), p + 1);
    x.off(3);
    due.is("six in one yard", x.spread(0, -1), 6);
    due.is("six, one broken off", x.spread(0, 3), NONE);
    due.is("six, the one behind it", x.spread(0, 4), 4);
    due.is("a door nobody goes about", x.spread(5, -1), 0);
    due.is("a door it does not go about", x.spread(5, 0), NONE);
    x = Due.town("p0,0,1,0,0;p0,0,1,1,0;p0,0,1,1,0;p0,0,1,0,0;p0,0,1,5,0;");
    due.is("two pairs", x.spread(0, -1), 2);
    int[] pairs = {1, 1, 2, 2, 1};
    for (int p = 0; p < 5; p++) due.is("two pairs, " + p, x.spread(0, p), pairs[p]);
    pathOfFour();
    int[][] bad = {{-1, 0}, {6, 0}, {0, -2}, {0, 5}, {6, -1}, {MIN, 0}, {0, MIN}, {MAX, 0}, {0, MAX}};
    for (int[] b : bad) due.is("spread(" + b[0] + ", " + b[1] + ")", x.spread(b[0], b[1]), BAD);
    // Behind 24 days counts, behind 25 not.
    x = Due.town("p3,0,9,0,0;p0,0,1,9,0;");
    due.is("in one yard behind 25 days", x.spread(0, -1), 1);
    x.pass(1);
    due.is("in one yard behind 24 days", x.spread(0, -1), 2);
    x.weave(0, 0, 1);
    due.is("as wide now or not, no matter", x.spread(0, -1), 2);
    x.weave(0, 3, 1);
    due.is("at another door", x.spread(0, -1), 1);
    // What was asked ahead leaves nothing behind.
    x = Due.town("p0,0,1,0,0;p0,0,1,0,0;p0,0,1,1,0;");
    due.is("two in one yard", x.spread(0, -1), 2);
    x.pace(1, 1);
    x.pass(2);
    x.pace(1, 0);
    due.is("all apart", x.spread(0, -1), 1);
    due.is("all apart: 1", x.spread(0, 1), 1);
  }

  /**
   * Searches a town of four in which 0 and 2, 2 and 3, 3 and 1 alone share a yard: with the lowest
   * free width for each, 0 and 1 would both be 1 and three widths be needed, where two are enough.
   */
  private static void pathOfFour() {
    int found = 0;
    for (int a = 0; a < 12 && found == 0; a++)
      for (int s = 1; s < 12 && found == 0; s++)
        for (int b = 0; b < 12 && found == 0; b++)
          for (int t = 1; t < 12 && found == 0; t++) {
            boolean[][] clash = clashes(new int[][] {{0, 0}, {1, 0}, {a, s}, {b, t}});
            boolean path = clash[0][2] && clash[2][3] && clash[3][1] && !clash[0][1] && !clash[0][3] && !clash[1][2];
            if (!path) continue;
            found++;
            WreathOrbits x = Due.town("p0,0,1,0,0;p0,0,1,1,0;p0,0,1," + a + "," + s + ";p0,0,1," + b + "," + t + ";");
            due.is("path: how many", x.spread(0, -1), 2);
            int[] want = {1, 2, 2, 1};
            for (int p = 0; p < 4; p++) due.is("path: " + p, x.spread(0, p), want[p]);
          }
    due.is("a path of four was found", found, 1);
  }

  private static boolean[][] clashes(int[][] plain) {
    boolean[][] clash = new boolean[plain.length][plain.length];
    for (int n = 0; n <= 24; n++)
      for (int p = 0; p < plain.length; p++)
        for (int q = 0; q < plain.length; q++)
          if ((plain[p][0] + n * plain[p][1] - plain[q][0] - n * plain[q][1]) % 12 == 0) clash[p][q] = true;
    return clash;
  }

  private static void promise20() {
    WreathOrbits x = new WreathOrbits();
    due.is("dear(0), of several the lowest", x.dear(0), 0);
    due.is("dear(1)", x.dear(1), 3);
    x.weave(6, 1, 1);
    due.is("dear(0) then", x.dear(0), 1);
    due.is("dear(1) then", x.dear(1), 4);
    for (int p = 0; p < 7; p++) x.off(p);
    due.is("dear(0), nobody about", x.dear(0), 0);
    due.is("dear(1), nobody about", x.dear(1), 0);
    x.weave(3, 5, 1);
    due.is("dear(0), one about", x.dear(0), 5);
    int[] bad = {-1, 2, MIN, MAX};
    for (int what : bad) due.is("dear(" + what + ")", x.dear(what), BAD);
  }
}
