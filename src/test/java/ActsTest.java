/** Promises 9 to 13: pass, weave, off, pace, undo. */
public final class ActsTest {
  private static final Due due = new Due("ActsTest");
  private static final int BAD = WreathOrbits.BAD, NO = WreathOrbits.NO, NONE = WreathOrbits.NONE;

  public static void main(String[] args) {
    promise9();
    promise10();
    promise11();
    promise12();
    promise13();
    due.end();
  }

  private static void promise9() {
    // Each kind with a pace of 5, day by day.
    WreathOrbits x = Due.town("p0,0,1,0,5;p1,1,1,0,5;p2,2,1,0,5;p3,3,1,0,5;p3,4,1,0,5;p3,5,1,0,0;");
    x.off(4);
    int[][] yards = {{5, 10, 3, 8, 1, 6, 11}, {5, 5, 10, 10, 3, 3, 8}, {10, 8, 6, 4, 2, 0, 10}, {6, 11, 4, 10, 3, 8, 2}, {0, 0, 0, 0, 0, 0, 0}, {1, 1, 1, 2, 2, 2, 3}};
    for (int day = 0; day < 7; day++) {
      due.is("pass(1) on day " + day, x.pass(1), 0);
      due.is("the day", x.count(1), day + 1);
      for (int p = 0; p < 6; p++) due.is("yard of " + p + " behind day " + day, x.person(p, 3), yards[p][day]);
    }
    // Three who stay together make three meetings a day, counted behind going round.
    x = Due.town("p0,0,1,0,0;p0,0,1,0,0;p1,0,1,0,0;p0,0,2,0,0;p0,1,1,0,0;");
    due.is("meetings ahead", x.count(5), 0);
    due.is("pass(20)", x.pass(20), 60);
    due.is("pass(1)", x.pass(1), 3);
    due.is("meetings so far", x.count(5), 63);
    x = Due.town("p0,0,1,0,1;p0,0,1,0,0;");
    due.is("a meeting of day 0 is none, that behind 12 days is", x.pass(12), 1);
    String before = Due.state(x);
    int[] bad = {0, 21, -1, Integer.MIN_VALUE, Integer.MAX_VALUE};
    for (int n : bad) due.is("pass(" + n + ")", x.pass(n), BAD);
    due.same("pass() that is BAD", Due.state(x), before);
    // The last day is 999.
    x = new WreathOrbits();
    for (int i = 0; i < 49; i++) x.pass(20);
    due.is("day 980", x.count(1), 980);
    before = Due.state(x);
    due.is("pass(20) on day 980", x.pass(20), NO);
    due.is("pass(21), BAD ahead of NO", x.pass(21), BAD);
    due.same("pass() that is NO", Due.state(x), before);
    due.is("pass(19) on day 980", x.pass(19) >= 0 ? 1 : 0, 1);
    due.is("day 999", x.count(1), 999);
    due.is("pass(1) on day 999", x.pass(1), NO);
  }

  private static void promise10() {
    WreathOrbits x = new WreathOrbits();
    due.is("weave(0, 1, 2)", x.weave(0, 1, 2), 4);
    due.is("its door", x.person(0, 1), 1);
    due.is("its width", x.person(0, 2), 2);
    due.is("its yard stays", x.person(0, 3), 0);
    due.is("weave(0, 1, 2) again", x.weave(0, 1, 2), NO);
    due.is("another width alone", x.weave(0, 1, 9), 4);
    due.is("another door alone", x.weave(0, 5, 9), 1);
    x.off(0);
    x.pass(1);
    due.is("broken off, woven as it was", x.weave(0, 5, 9), 1);
    due.is("broken off, it stayed in its yard", x.person(0, 3), 0);
    String before = Due.state(x);
    due.is("woven as it is", x.weave(0, 5, 9), NO);
    int[][] bad = {{-1, 0, 1}, {7, 0, 1}, {0, -1, 1}, {0, 6, 1}, {0, 0, 0}, {0, 0, 10}, {0, -4, -4}, {Integer.MIN_VALUE, 0, 1}, {0, Integer.MAX_VALUE, 1}, {0, 0, Integer.MIN_VALUE}};
    for (int[] b : bad) due.is("weave(" + b[0] + ", " + b[1] + ", " + b[2] + ")", x.weave(b[0], b[1], b[2]), BAD);
    due.same("weave() that is refused", Due.state(x), before);
  }

  private static void promise11() {
    WreathOrbits x = new WreathOrbits();
    due.is("off(6)", x.off(6), 4);
    due.is("off(0)", x.off(0), 0);
    due.is("its door", x.person(0, 1), NONE);
    due.is("who go about a door", x.count(2), 5);
    String before = Due.state(x);
    due.is("off(0) again", x.off(0), NO);
    int[] bad = {-1, 7, Integer.MIN_VALUE, Integer.MAX_VALUE};
    for (int p : bad) due.is("off(" + p + ")", x.off(p), BAD);
    due.same("off() that is refused", Due.state(x), before);
    int yard = x.person(0, 3);
    x.pass(5);
    due.is("it stays in its yard", x.person(0, 3), yard);
    x = Due.town("p0,0,1,3,0;p0,0,1,3,0;");
    x.off(0);
    due.is("it meets nobody", x.pass(4), 0);
    x.off(1);
    due.is("two that are broken off meet nobody", x.pass(4), 0);
  }

  private static void promise12() {
    WreathOrbits x = new WreathOrbits();
    due.is("pace(2, 11)", x.pace(2, 11), 5);
    due.is("its pace", x.person(2, 4), 11);
    due.is("pace(2, 0)", x.pace(2, 0), 11);
    due.is("pace(6, 1)", x.pace(6, 1), 0);
    x.off(6);
    due.is("pace() of one broken off", x.pace(6, 3), 1);
    String before = Due.state(x);
    due.is("pace(2, 0) again", x.pace(2, 0), NO);
    int[][] bad = {{-1, 0}, {7, 0}, {0, -1}, {0, 12}, {Integer.MIN_VALUE, 1}, {1, Integer.MAX_VALUE}};
    for (int[] b : bad) due.is("pace(" + b[0] + ", " + b[1] + ")", x.pace(b[0], b[1]), BAD);
    due.same("pace() that is refused", Due.state(x), before);
    x.pass(1);
    due.is("the new pace is gone by", x.person(2, 3), 4);
  }

  private static void promise13() {
    // Three people, as what is told of seven again and again would be more calls than an object is used for.
    WreathOrbits x = Due.town("p0,0,3,0,1;p1,0,3,6,2;p2,0,3,4,5;");
    due.is("undo() of nothing", x.undo(), NO);
    x.pass(3);
    String[] states = new String[12];
    for (int i = 0; i < 12; i++) {
      states[i] = town(x);
      act(x, i);
      due.is("that can be undone", x.count(8), Math.min(8, i + 2));
    }
    for (int i = 11; i >= 4; i--) {
      due.is("undo() of act " + i, x.undo(), i - 4);
      due.same("undo() of act " + i, town(x), states[i]);
    }
    due.is("a ninth undo()", x.undo(), NO);
    due.same("a ninth undo()", town(x), states[4]);
    act(x, 4);
    due.is("act, then undo()", x.undo(), 0);
    due.same("act, then undo()", town(x), states[4]);
    // What is refused, asked, written, noted or kept is nothing to be undone.
    x = new WreathOrbits();
    x.pace(0, 2);
    x.pace(0, 2);
    x.weave(0, 0, 3);
    x.off(9);
    x.write('p');
    x.seen(0, 0, 0);
    x.told(0, 0);
    x.keep();
    x.season(1, 9, 0);
    due.is("that can be undone", x.count(8), 1);
    due.is("undo() of the one", x.undo(), 0);
    int[] stays = {6, 7, 9, 10};
    for (int what : stays) due.is("undo() leaves count(" + what + ")", x.count(what), 1);
    // One by which no person becomes another is undone as others are.
    x = Due.town("p0,0,1,0,0;");
    x.pass(20);
    due.is("undo() of pass()", x.undo(), 0);
    due.is("the day", x.count(1), 0);
  }

  private static void act(WreathOrbits x, int i) {
    switch (i % 4) {
      case 0: x.weave(i % 3, 2, 1 + i % 9); break;
      case 1: x.off(i % 3); break;
      case 2: x.pace(i % 3, (x.person(i % 3, 4) + 1) % 12); break;
      default: x.pass(1 + i);
    }
  }

  private static String town(WreathOrbits x) {
    StringBuilder all = new StringBuilder();
    all.append(x.count(1)).append(' ').append(x.count(5)).append(' ');
    for (int p = 0; p < 3; p++)
      for (int what = 0; what <= 4; what++) all.append(x.person(p, what)).append(' ');
    return all.toString();
  }
}
