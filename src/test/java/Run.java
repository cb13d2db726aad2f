import java.util.ArrayList;
import java.util.Arrays;
import java.util.List;
import java.util.Set;

/**
 * A run of calls on one object, 512 at most. A call that must change nothing (a question, or one that is
 * refused) is also made on one of two twins, of which all is read out then: they must tell the same.
 */
final class Run {
  private static final int MOST_CALLS = 512;
  private static final Set<String> ACTS = Set.of("write", "wipe", "lay", "pass", "weave", "off", "pace", "undo", "seen", "told",
      "forget", "keep", "back");

  private record Call(String name, int[] arguments) {}

  private final Bounds bounds;
  private final Counted object = new Counted();
  private final List<Call> history = new ArrayList<>();

  Run(Bounds bounds) {
    this.bounds = bounds;
  }

  /** A call whose answer is due, and which changes nothing if it must not. */
  void is(int want, String name, int... arguments) {
    gives(want, name, arguments);
    if (!ACTS.contains(name) || want < 0) changesNothing(name, arguments);
  }

  /** A call whose answer alone is looked at: for runs too long for twins to be read out behind them. */
  void gives(int want, String name, int... arguments) {
    bounds.equal(told(name, arguments), make(name, arguments), want);
  }

  int make(String name, int... arguments) {
    int answer = object.make(name, arguments);
    if (ACTS.contains(name) && answer >= 0) history.add(new Call(name, arguments));
    return answer;
  }

  Run write(String text) {
    for (int i = 0; i < text.length(); i++) make("write", text.charAt(i));
    return this;
  }

  Run lay(String text) {
    make("wipe");
    write(text);
    make("lay");
    return this;
  }

  /** Days go by till it is that one. */
  Run till(int day) {
    for (int now = make("count", 1); now < day; now = make("count", 1)) make("pass", Math.min(20, day - now));
    return this;
  }

  private void changesNothing(String name, int[] arguments) {
    Counted without = twin();
    Counted with = twin();
    with.make(name, arguments);
    bounds.same(told(name, arguments) + " changes nothing", with.readOut(), without.readOut());
  }

  private Counted twin() {
    Counted twin = new Counted();
    for (Call call : history) twin.make(call.name, call.arguments);
    return twin;
  }

  private static String told(String name, int[] arguments) {
    return name + Arrays.toString(arguments).replace('[', '(').replace(']', ')');
  }

  /** An object that is not used for more calls than the document allows. */
  private final class Counted {
    private final WreathOrbits x = new WreathOrbits();
    private int calls = 0;

    int make(String name, int... arguments) {
      calls++;
      if (calls == MOST_CALLS + 1) bounds.equal("calls of one object", calls, MOST_CALLS);
      return Calls.make(x, name, arguments);
    }

    /** All that can be told of the object; it is of no use then, as all is undone, gone back to and laid. */
    String readOut() {
      StringBuilder all = new StringBuilder();
      for (int what = 0; what <= 10; what++) tell(all, "count", what);
      tell(all, "rings", 0);
      tell(all, "rings", 1);
      tell(all, "fault");
      int people = make("count", 0);
      for (int p = 0; p < people; p++) {
        tell(all, "kinds", p);
        tell(all, "speeds", p);
        tell(all, "person", p, 0);
      }
      tellTown(all, people);
      for (int i = 0; i < 9 && make("undo") >= 0; i++) tellTown(all.append("undone: "), people);
      for (int i = 0; i < 3 && make("back") >= 0; i++) tellTown(all.append("back: "), people);
      tellTown(all.append("laid: "), make("lay"));
      return all.toString();
    }

    private void tellTown(StringBuilder all, int people) {
      tell(all, "count", 1);
      tell(all, "count", 5);
      for (int p = 0; p < people; p++)
        for (int what = 1; what <= 4; what++) tell(all, "person", p, what);
    }

    private void tell(StringBuilder all, String name, int... arguments) {
      all.append(make(name, arguments)).append(' ');
    }
  }
}
