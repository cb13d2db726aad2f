/** Promises 21 to 27: seen, kinds, speeds, told, rings, look, forget. */
public final class SeenTest {
  private static final Due due = new Due("SeenTest");
  private static final int BAD = WreathOrbits.BAD, FULL = WreathOrbits.FULL, NONE = WreathOrbits.NONE;
  private static final int MIN = Integer.MIN_VALUE, MAX = Integer.MAX_VALUE;

  public static void main(String[] args) {
    promise21();
    promise22();
    promise23();
    promise24();
    promise25();
    promise26();
    promise27();
    due.end();
  }

  private static void promise21() {
    WreathOrbits x = new WreathOrbits();
    int[][] bad = {{-1, 0, 0}, {7, 0, 0}, {0, -1, 0}, {0, 25, 0}, {0, 0, -1}, {0, 0, 12}, {MIN, 0, 0}, {0, MAX, 0}, {0, 0, MIN}};
    for (int[] b : bad) due.is("seen(" + b[0] + ", " + b[1] + ", " + b[2] + ")", x.seen(b[0], b[1], b[2]), BAD);
    due.is("count(6) behind BAD", x.count(6), 0);
    due.is("seen(0, 24, 11)", x.seen(0, 24, 11), 1);
    due.is("the same again", x.seen(0, 24, 11), 2);
    due.is("seen(6, 0, 0)", x.seen(6, 0, 0), 3);
    for (int i = 4; i <= 6; i++) due.is("seen() no. " + i, x.seen(1, i, i), i);
    due.is("seen() no. 7", x.seen(1, 1, 1), FULL);
    due.is("seen(), BAD ahead of FULL", x.seen(7, 1, 1), BAD);
    due.is("count(6)", x.count(6), 6);
    due.is("told() has room of its own", x.told(1, 1), 1);
  }

  private static void promise22() {
    // Behind 1 day with a pace of 3: plain 3, mourning 3, burr 6, dropping in 4.
    due.is("behind 1 day in 3", kindsSeen(1, 3), 3);
    due.is("behind 1 day in 6", kindsSeen(1, 6), 4);
    due.is("behind 1 day in 4", kindsSeen(1, 4), 8);
    due.is("behind 2 days in 3", kindsSeen(2, 3), 2);
    due.is("behind 2 days in 5", kindsSeen(2, 5), 0);
    due.is("behind 0 days in 0", kindsSeen(0, 0), 15);
    due.is("behind 0 days in 1", kindsSeen(0, 1), 0);
    due.is("behind 24 days in 0", kindsSeen(24, 0), 1 | 2 | 4);
    due.is("behind 24 days in 8", kindsSeen(24, 8), 8);
    WreathOrbits x = Due.town("p0,0,1,0,3;p0,0,1,0,3;");
    x.seen(0, 1, 3);
    x.seen(0, 2, 6);
    due.is("all that is seen of it", x.kinds(0), 1);
    due.is("nothing of the other", x.kinds(1), 15);
    x.seen(1, 1, 9);
    due.is("what is seen of another is nothing to it", x.kinds(0), 1);
    due.is("what is never so", x.kinds(1), 0);
    // From now on, whenever it is asked.
    x.forget();
    x.seen(0, 1, 6);
    due.is("on day 0", x.kinds(0), 4);
    x.pass(1);
    due.is("on day 1 in yard 3: plain and dropping in", x.kinds(0), 1 | 8);
    x.off(0);
    due.is("broken off in 3, seen in 6", x.kinds(0), 0);
    x.forget();
    x.seen(0, 9, 3);
    due.is("broken off in 3, seen in 3", x.kinds(0), 15);
    int[] bad = {-1, 2, 7, MIN, MAX};
    for (int p : bad) due.is("kinds(" + p + ")", x.kinds(p), BAD);
  }

  private static int kindsSeen(int n, int y) {
    WreathOrbits x = Due.town("p2,0,1,0,3;");
    x.seen(0, n, y);
    return x.kinds(0);
  }

  private static void promise23() {
    WreathOrbits x = Due.town("p0,0,1,0,3;p1,0,1,0,3;p2,0,1,0,3;p3,0,1,0,3;");
    for (int p = 0; p < 4; p++) due.is("nothing seen of " + p, x.speeds(p), 4095);
    x.seen(0, 2, 4);
    x.seen(1, 2, 4);
    x.seen(2, 2, 4);
    x.seen(3, 2, 5);
    due.is("plain", x.speeds(0), 1 << 2 | 1 << 8);
    due.is("mourning", x.speeds(1), 1 << 4);
    due.is("burr", x.speeds(2), 1 << 1 | 1 << 4 | 1 << 7 | 1 << 10);
    due.is("dropping in", x.speeds(3), 1 << 2 | 1 << 8);
    x.seen(0, 1, 8);
    due.is("plain, two seen", x.speeds(0), 1 << 8);
    x.seen(0, 1, 7);
    due.is("plain, never so", x.speeds(0), 0);
    x.pass(1);
    due.is("mourning, on day 1 in 3", x.speeds(1), 1 << 1);
    x.off(1);
    due.is("broken off in 3, seen in 4", x.speeds(1), 0);
    x.off(2);
    due.is("broken off in 6, seen in 4", x.speeds(2), 0);
    x.forget();
    x.seen(1, 24, 3);
    due.is("broken off in 3, seen in 3", x.speeds(1), 4095);
    int[] bad = {-1, 4, 7, MIN, MAX};
    for (int p : bad) due.is("speeds(" + p + ")", x.speeds(p), BAD);
  }

  private static void promise24() {
    WreathOrbits x = new WreathOrbits();
    int[][] bad = {{-1, 0}, {25, 0}, {0, -1}, {0, 12}, {MIN, 0}, {0, MAX}};
    for (int[] b : bad) due.is("told(" + b[0] + ", " + b[1] + ")", x.told(b[0], b[1]), BAD);
    due.is("count(7) behind BAD", x.count(7), 0);
    due.is("told(24, 11)", x.told(24, 11), 1);
    due.is("the same again", x.told(24, 11), 2);
    for (int i = 3; i <= 6; i++) due.is("told() no. " + i, x.told(0, i), i);
    due.is("told() no. 7", x.told(0, 0), FULL);
    due.is("told(), BAD ahead of FULL", x.told(0, 12), BAD);
    due.is("count(7)", x.count(7), 6);
    due.is("seen() has room of its own", x.seen(0, 1, 1), 1);
    due.is("told() is nothing to kinds()", x.kinds(1), 15);
  }

  private static void promise25() {
    WreathOrbits x = new WreathOrbits();
    due.is("rings(0), nothing told", x.rings(0), 144);
    due.is("rings(1), nothing told", x.rings(1), 0);
    x.seen(0, 0, 5);
    due.is("rings(0), nothing told but seen", x.rings(0), 144);
    x.told(3, 11);
    due.is("rings(0)", x.rings(0), 12);
    due.is("rings(1), the first by yard: 2 with pace 3", x.rings(1), 27);
    x.told(1, 4);
    due.is("rings(0), two told", x.rings(0), 0);
    due.is("rings(1), none", x.rings(1), NONE);
    x.forget();
    x.told(3, 11);
    x.told(1, 3);
    due.is("rings(0), paces 4 and 10", x.rings(0), 2);
    due.is("rings(1), yard 5 and pace 10", x.rings(1), 70);
    x.pass(1);
    due.is("from now on, whenever it is asked", x.rings(1), 70);
    x.forget();
    x.told(0, 11);
    x.told(1, 10);
    due.is("rings(1), the last of all", x.rings(1), 143);
    int[] bad = {-1, 2, MIN, MAX};
    for (int what : bad) due.is("rings(" + what + ")", x.rings(what), BAD);
  }

  private static void promise26() {
    WreathOrbits x = new WreathOrbits();
    due.is("look(0), nothing told", x.look(0), 0);
    due.is("look(1), nothing told", x.look(1), 12);
    x.told(1, 0);
    due.is("look(0), told for day 1", x.look(0), 0);
    due.is("look(1)", x.look(1), 12);
    x.told(7, 0);
    due.is("look(0), even paces", x.look(0), 0);
    due.is("look(1), even paces", x.look(1), 6);
    x.forget();
    x.told(0, 3);
    x.told(4, 3);
    due.is("look(0), paces by three", x.look(0), 1);
    due.is("look(1), paces by three", x.look(1), 4);
    x.told(1, 6);
    due.is("look(0), one ring", x.look(0), 0);
    due.is("look(1), one ring", x.look(1), 1);
    x.told(1, 7);
    due.is("look(0), no ring", x.look(0), 0);
    due.is("look(1), no ring", x.look(1), 0);
    // Behind 0 and 12 days those of all paces are in one yard.
    x.forget();
    x.told(12, 4);
    due.is("look(0), told for day 12", x.look(0), 1);
    due.is("look(1), told for day 12", x.look(1), 12);
    int[] bad = {-1, 2, MIN, MAX};
    for (int what : bad) due.is("look(" + what + ")", x.look(what), BAD);
  }

  private static void promise27() {
    WreathOrbits x = new WreathOrbits();
    due.is("forget() of nothing", x.forget(), 0);
    for (int i = 0; i < 6; i++) x.seen(0, 0, i);
    for (int i = 0; i < 5; i++) x.told(0, i);
    due.is("forget()", x.forget(), 11);
    due.is("count(6)", x.count(6), 0);
    due.is("count(7)", x.count(7), 0);
    due.is("kinds(0)", x.kinds(0), 15);
    due.is("rings(0)", x.rings(0), 144);
    due.is("forget() again", x.forget(), 0);
    due.is("seen() then", x.seen(0, 1, 1), 1);
    due.is("told() then", x.told(1, 1), 1);
  }
}
