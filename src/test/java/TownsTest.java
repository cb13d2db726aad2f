/** Promises 1 to 8: a new object, write, wipe, fault, lay, person, near, about. */
public final class TownsTest {
  private static final Due due = new Due("TownsTest");
  private static final String FIRST = "p0,0,3,0,1;p1,0,3,6,2;p2,0,3,4,5;p3,1,2,9,1;p0,1,2,3,7;p2,1,5,3,1;p1,4,1,0,0;";

  public static void main(String[] args) {
    promise1();
    promise2();
    promise3();
    promise4();
    promise5();
    promise6();
    promise7();
    promise8();
    due.end();
  }

  private static void promise1() {
    WreathOrbits x = new WreathOrbits();
    int[] counts = {7, 0, 7, 0, 1, 0, 0, 0, 0, 0, 0};
    for (int what = 0; what < counts.length; what++) due.is("new: count(" + what + ")", x.count(what), counts[what]);
    int[][] people = {{0, 0, 3, 0, 1}, {1, 0, 3, 6, 2}, {2, 0, 3, 4, 5}, {3, 1, 2, 9, 1}, {0, 1, 2, 3, 7}, {2, 1, 5, 3, 1}, {1, 4, 1, 0, 0}};
    for (int p = 0; p < 7; p++)
      for (int what = 0; what < 5; what++)
        due.is("new: person(" + p + ", " + what + ")", x.person(p, what), people[p][what]);
    due.is("new: fault()", x.fault(), WreathOrbits.NONE);
    due.is("BAD", WreathOrbits.BAD, -1);
    due.is("NO", WreathOrbits.NO, -2);
    due.is("FULL", WreathOrbits.FULL, -3);
    due.is("NONE", WreathOrbits.NONE, -4);
    // The first town is the one that its text lays, and two objects share nothing.
    WreathOrbits laid = Due.town(FIRST);
    laid.wipe();
    due.same("the first town, laid", Due.state(laid), Due.state(x));
    laid.pass(5);
    due.same("another object", Due.state(new WreathOrbits()), Due.state(x));
  }

  private static void promise2() {
    WreathOrbits x = new WreathOrbits();
    due.is("write(31)", x.write(31), WreathOrbits.BAD);
    due.is("write(127)", x.write(127), WreathOrbits.BAD);
    due.is("write(-1)", x.write(-1), WreathOrbits.BAD);
    due.is("write(112 + 65536)", x.write(112 + 65536), WreathOrbits.BAD);
    due.is("write(MIN)", x.write(Integer.MIN_VALUE), WreathOrbits.BAD);
    due.is("write(MAX)", x.write(Integer.MAX_VALUE), WreathOrbits.BAD);
    due.is("count(10) behind BAD", x.count(10), 0);
    due.is("write(32)", x.write(32), 1);
    due.is("write(126)", x.write(126), 2);
    for (int i = 3; i <= 200; i++) due.is("write() no. " + i, x.write('p'), i);
    due.is("write() no. 201", x.write('p'), WreathOrbits.FULL);
    due.is("write(0), BAD ahead of FULL", x.write(0), WreathOrbits.BAD);
    due.is("count(10) behind FULL", x.count(10), 200);
  }

  private static void promise3() {
    WreathOrbits x = new WreathOrbits();
    due.is("wipe() of nothing", x.wipe(), 0);
    Due.write(x, "p9");
    due.is("wipe()", x.wipe(), 2);
    due.is("count(10)", x.count(10), 0);
    due.is("wipe() again", x.wipe(), 0);
    due.is("fault() behind wipe()", x.fault(), WreathOrbits.NONE);
    Due.write(x, "p0,0,1,0,0;");
    due.is("fault() of what comes behind wipe()", x.fault(), WreathOrbits.NONE);
  }

  private static void faultOf(String text, int want) {
    WreathOrbits x = new WreathOrbits();
    Due.write(x, text);
    due.is("fault() of " + text, x.fault(), want);
    if (want != WreathOrbits.NONE) due.is("lay() of " + text, x.lay(), WreathOrbits.NO);
  }

  private static void promise4() {
    String good = "p3,5,9,11,11;";
    faultOf("", WreathOrbits.NONE);
    faultOf(good, WreathOrbits.NONE);
    faultOf("p0,0,1,0,0;", WreathOrbits.NONE);
    faultOf("p00,05,09,00,01;", WreathOrbits.NONE);
    String[] wrong = {"p4,0,1,0,0;", "p0,6,1,0,0;", "p0,0,0,0,0;", "p0,0,10,0,0;", "p0,0,1,12,0;", "p0,0,1,0,12;",
        "p0,0,1,0,0", "p0,0,1,0,", "p0,0,1,0;", "p0,0,1,0,0,0;", "p0,0,1,0,0,", "p,0,1,0,0;", "p0,,1,0,0;", "p0,0,1,0,;",
        "p000,0,1,0,0;", "p0,0,1,0,000;", "p0,0,001,0,0;", "p 0,0,1,0,0;", "p0 ,0,1,0,0;", "p-1,0,1,0,0;", "P0,0,1,0,0;", "q0,0,1,0,0;",
        "0,0,1,0,0;", ";", " ", "p", "p0", "p0;0;1;0;0;", "p0,0,1,0,0:", "p0.0.1.0.0;", "p0,0,1,0,a;", "p0,0,1,0,/;", "p0,0,1,0,:;", "pp0,0,1,0,0;"};
    for (String text : wrong) {
      faultOf(text, 0);
      faultOf(good + text, 13);
      faultOf(good + good + text + good, 26);
    }
    faultOf("p0,0,1,0,0; p0,0,1,0,0;", 11);
    faultOf("p0,0,1,0,0;;", 11);
    // Seven people at most: the eighth item is at fault, however it goes on.
    String seven = "p0,0,1,0,0;".repeat(7);
    faultOf(seven, WreathOrbits.NONE);
    faultOf(seven + "p0,0,1,0,0;", 77);
    faultOf(seven + "x", 77);
    faultOf("p03,05,09,11,11;".repeat(7), WreathOrbits.NONE);
    // Only the text counts, not letters that were wiped.
    WreathOrbits x = new WreathOrbits();
    Due.write(x, "p0,0,1,0,0;");
    x.wipe();
    Due.write(x, "p0,0,1");
    due.is("fault() in front of wiped letters", x.fault(), 0);
    Due.write(x, ",0,0");
    due.is("fault() in front of a wiped ;", x.fault(), 0);
    x.write(';');
    due.is("fault() with a ; of its own", x.fault(), WreathOrbits.NONE);
  }

  private static void promise5() {
    WreathOrbits x = new WreathOrbits();
    String before = Due.state(x);
    due.is("lay() of nothing", x.lay(), WreathOrbits.NO);
    due.same("lay() of nothing", Due.state(x), before);
    x.pass(3);
    x.keep();
    x.pace(0, 9);
    x.seen(0, 1, 1);
    x.told(1, 1);
    Due.write(x, "p1,2,9,10,11;p2,5,1,7,0");
    before = Due.state(x);
    due.is("lay() of a fault", x.lay(), WreathOrbits.NO);
    due.same("lay() of a fault", Due.state(x), before);
    x.write(';');
    due.is("lay()", x.lay(), 2);
    int[] counts = {2, 0, 2, 0, 0, 0, 0, 0, 0, 0, 24};
    for (int what = 0; what < counts.length; what++) due.is("laid: count(" + what + ")", x.count(what), counts[what]);
    int[][] people = {{1, 2, 9, 10, 11}, {2, 5, 1, 7, 0}};
    for (int p = 0; p < 2; p++)
      for (int what = 0; what < 5; what++)
        due.is("laid: person(" + p + ", " + what + ")", x.person(p, what), people[p][what]);
    due.is("laid: undo()", x.undo(), WreathOrbits.NO);
    due.is("laid: back()", x.back(), WreathOrbits.NO);
    due.is("laid: kinds(0)", x.kinds(0), 15);
    due.is("laid: rings(0)", x.rings(0), 144);
    due.is("laid: person(2, 0), none more", x.person(2, 0), WreathOrbits.BAD);
    x.pass(7);
    x.off(1);
    x.weave(0, 1, 1);
    x.weave(1, 1, 1);
    x.all(60);
    due.is("lay() once more", x.lay(), 2);
    due.is("laid once more: meetings", x.count(5), 0);
    due.is("laid once more: day", x.count(1), 0);
    due.is("laid once more: yard", x.person(0, 3), 10);
    due.is("laid once more: door", x.person(1, 1), 5);
  }

  private static void promise6() {
    WreathOrbits x = Due.town("p3,4,8,10,7;p0,0,1,0,0;");
    int[] all = {3, 4, 8, 10, 7};
    for (int what = 0; what < 5; what++) due.is("person(0, " + what + ")", x.person(0, what), all[what]);
    x.off(0);
    due.is("broken off: kind", x.person(0, 0), 3);
    due.is("broken off: door", x.person(0, 1), WreathOrbits.NONE);
    due.is("broken off: width", x.person(0, 2), WreathOrbits.NONE);
    due.is("broken off: yard", x.person(0, 3), 10);
    due.is("broken off: pace", x.person(0, 4), 7);
    int[][] bad = {{-1, 0}, {2, 0}, {7, 0}, {Integer.MIN_VALUE, 0}, {Integer.MAX_VALUE, 0}, {0, -1}, {0, 5}, {0, Integer.MIN_VALUE}, {0, Integer.MAX_VALUE}, {9, 9}};
    for (int[] b : bad) due.is("person(" + b[0] + ", " + b[1] + ")", x.person(b[0], b[1]), WreathOrbits.BAD);
  }

  private static void promise7() {
    // 0 and 1 meet, 2 passes them, 3 is at another door, 4 in another yard, 5 and 6 are to be broken off.
    WreathOrbits x = Due.town("p0,2,3,5,1;p1,2,3,5,2;p2,2,4,5,3;p3,3,3,5,4;p0,2,3,6,1;p0,2,3,5,1;p0,2,3,5,1;");
    due.is("near(5, 6), both about", x.near(5, 6), 2);
    x.off(5);
    x.off(6);
    int[][] want = {{-1, 2, 1, 0, 0, 0, 0}, {2, -1, 1, 0, 0, 0, 0}, {1, 1, -1, 0, 0, 0, 0}, {0, 0, 0, -1, 0, 0, 0},
        {0, 0, 0, 0, -1, 0, 0}, {0, 0, 0, 0, 0, -1, 0}, {0, 0, 0, 0, 0, 0, -1}};
    for (int p = 0; p < 7; p++)
      for (int q = 0; q < 7; q++)
        due.is("near(" + p + ", " + q + ")", x.near(p, q), want[p][q]);
    int[][] bad = {{-1, 0}, {0, -1}, {7, 0}, {0, 7}, {-1, -1}, {7, 7}, {Integer.MIN_VALUE, 1}, {1, Integer.MAX_VALUE}};
    for (int[] b : bad) due.is("near(" + b[0] + ", " + b[1] + ")", x.near(b[0], b[1]), WreathOrbits.BAD);
  }

  private static void promise8() {
    WreathOrbits x = new WreathOrbits();
    int[] bits = {7, 56, 0, 0, 64, 0};
    for (int d = 0; d < 6; d++) due.is("about(" + d + ")", x.about(d), bits[d]);
    x.off(1);
    x.weave(6, 5, 9);
    int[] then = {5, 56, 0, 0, 0, 64};
    for (int d = 0; d < 6; d++) due.is("about(" + d + ") then", x.about(d), then[d]);
    int[] bad = {-1, 6, -4, Integer.MIN_VALUE, Integer.MAX_VALUE};
    for (int d : bad) due.is("about(" + d + ")", x.about(d), WreathOrbits.BAD);
  }
}
