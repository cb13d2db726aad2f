/** Promises 30 to 32: keep, back, count. */
public final class KeptTest {
  private static final Due due = new Due("KeptTest");
  private static final int BAD = WreathOrbits.BAD, NO = WreathOrbits.NO, FULL = WreathOrbits.FULL;

  public static void main(String[] args) {
    promise30();
    promise31();
    promise32();
    due.end();
  }

  private static void promise30() {
    WreathOrbits x = new WreathOrbits();
    x.pace(0, 5);
    due.is("keep()", x.keep(), 1);
    due.is("keep() leaves what can be undone", x.count(8), 1);
    due.is("keep() again", x.keep(), 2);
    String before = Due.state(x);
    due.is("keep() a third time", x.keep(), FULL);
    due.same("keep() that is FULL", Due.state(x), before);
    due.is("undo() behind keep()", x.undo(), 0);
    due.is("undo() leaves what is kept", x.count(9), 2);
    x.back();
    due.is("keep() behind back()", x.keep(), 2);
  }

  private static void promise31() {
    WreathOrbits x = new WreathOrbits();
    due.is("back() to nothing", x.back(), NO);
    int met = x.pass(3);
    x.keep();
    met += x.pass(16);
    x.off(2);
    x.pace(3, 8);
    x.weave(4, 5, 6);
    x.keep();
    x.pass(5);
    x.weave(2, 3, 3);
    x.seen(0, 1, 1);
    x.told(2, 2);
    Due.write(x, "p0");
    due.is("back()", x.back(), 1);
    due.is("the day", x.count(1), 19);
    due.is("broken off", x.person(2, 1), WreathOrbits.NONE);
    due.is("pace", x.person(3, 4), 8);
    due.is("door", x.person(4, 1), 5);
    due.is("width", x.person(4, 2), 6);
    due.is("meetings as kept", x.count(5), met);
    due.is("nothing can be undone", x.count(8), 0);
    due.is("undo()", x.undo(), NO);
    due.is("what is seen stays", x.count(6), 1);
    due.is("what is told stays", x.count(7), 1);
    due.is("the text stays", x.count(10), 2);
    due.is("kept", x.count(9), 1);
    // What was kept is not what is done since.
    x.pace(0, 11);
    x.pass(1);
    due.is("back() once more", x.back(), 0);
    due.is("the day", x.count(1), 3);
    due.is("meetings as kept first", x.count(5), 1);
    due.is("about a door", x.person(2, 1), 0);
    due.is("pace of 0", x.person(0, 4), 1);
    due.is("yard of 3", x.person(3, 3), 1);
    String before = Due.state(x);
    due.is("back() to nothing more", x.back(), NO);
    due.same("back() that is NO", Due.state(x), before);
    x.pace(0, 2);
    due.is("back() that is NO leaves acts", x.back(), NO);
    due.is("what can be undone", x.count(8), 1);
  }

  private static void promise32() {
    WreathOrbits x = Due.town("p0,0,1,0,0;p0,0,1,0,0;p0,0,2,0,0;p0,1,1,0,0;p0,1,3,0,0;");
    x.pass(4);
    x.off(4);
    x.pass(2);
    x.seen(0, 1, 1);
    x.seen(1, 1, 1);
    for (int i = 0; i < 3; i++) x.told(1, 1);
    x.keep();
    x.write('p');
    int[] counts = {5, 6, 4, 1, 2, 6, 2, 3, 3, 1, 56};
    for (int what = 0; what < counts.length; what++) due.is("count(" + what + ")", x.count(what), counts[what]);
    x.undo();
    due.is("meetings of what is undone are none", x.count(5), 4);
    x.undo();
    due.is("who pass, 4 being about again", x.count(4), 3);
    due.is("who go about a door", x.count(2), 5);
    x.back();
    due.is("meetings as kept", x.count(5), 6);
    int[] bad = {-1, 11, Integer.MIN_VALUE, Integer.MAX_VALUE};
    for (int what : bad) due.is("count(" + what + ")", x.count(what), BAD);
  }
}
