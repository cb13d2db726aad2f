import java.util.Arrays;

/** Bounds that hold for all calls: how many they are, which numbers are told, what a refused one answers. */
final class BoundsOfCalls {
  private static final int BAD = Bounds.BAD, NO = Bounds.NO, FULL = Bounds.FULL, NONE = Bounds.NONE;
  private static final int MIN = Bounds.MIN, MAX = Bounds.MAX;
  private static final String LEAST = Bounds.LEAST, MOST = Bounds.MOST;

  private final Bounds b;

  BoundsOfCalls(Bounds bounds) {
    b = bounds;
  }

  void test() {
    fiveHundredAndTwelve();
    numbersThatAreTold();
    doorsAndPersonsThereAre();
    notAsThingsStand();
    thereIsNone();
    full();
    firstInThisOrder();
    nothingChanges();
  }

  private void fiveHundredAndTwelve() {
    b.term("An object is used for at most 512 calls after it has been made; what later calls answer is free.");
    // The 512th call is answered as the others are, whichever calls went ahead of it.
    Run r = b.run();
    for (int i = 1; i <= 511; i++) r.gives(i <= 200 ? i : FULL, "write", '~');
    r.gives(200, "count", 10);
    r = b.run();
    int pace = 1;
    for (int i = 1; i <= 511; i++) {
      int next = (pace + 5) % 12;
      r.gives(pace, "pace", 0, next);
      pace = next;
    }
    r.gives(7, "undo");
    r = b.run();
    for (int i = 1; i <= 256; i++) {
      r.gives(1, "keep");
      r.gives(0, "back");
    }
  }

  /** Something of all that an object can hold, so that what a refused call changed would be told. */
  private Run held(String town) {
    Run r = b.run(town);
    r.make("pass", 3);
    r.make("keep");
    r.make("pass", 2);
    r.make("pace", 0, 7);
    r.make("seen", 0, 2, 3);
    r.make("told", 2, 3);
    return r;
  }

  /** Arguments that are told for a call; where two people are asked for, they are not alike. */
  private static int[] toldArguments(int call) {
    int[] arguments = new int[Calls.arguments(call)];
    for (int k = 0; k < arguments.length; k++) arguments[k] = Calls.least(call, k);
    boolean two = arguments.length >= 2 && Calls.isPerson(call, 0) && Calls.isPerson(call, 1);
    if (two) arguments[1] = 1;
    return arguments;
  }

  private void isBad(Run r, int call, int k, int number) {
    int[] arguments = toldArguments(call);
    arguments[k] = number;
    r.is(BAD, Calls.name(call), arguments);
  }

  private void isNotBad(Run r, int call, int k, int number) {
    int[] arguments = toldArguments(call);
    arguments[k] = number;
    boolean alike = k < 2 && arguments.length >= 2 && Calls.isPerson(call, 0) && Calls.isPerson(call, 1) && arguments[0] == arguments[1];
    if (alike) arguments[1 - k] = number == 0 ? 1 : 0;
    b.equal(Calls.name(call) + Arrays.toString(arguments) + " is BAD", r.make(Calls.name(call), arguments) == BAD ? 1 : 0, 0);
  }

  private void numbersThatAreTold() {
    b.term("BAD: a number is none that is told");
    for (int call = 0; call < Calls.NAMES; call++)
      for (int k = 0; k < Calls.arguments(call); k++) {
        int least = Calls.least(call, k), most = Calls.most(call, k);
        Run r = held(LEAST.repeat(7));
        for (int number : new int[] {least - 1, most + 1, MIN, MIN + 1, MAX - 1, MAX}) isBad(r, call, k, number);
        for (int number = least; number <= Math.min(most, least + 99); number++) isNotBad(held(LEAST.repeat(7)), call, k, number);
        isNotBad(held(LEAST.repeat(7)), call, k, most);
      }
  }

  private void doorsAndPersonsThereAre() {
    b.term("(DOORS, PERSONS: such as there are).");
    for (int people = 2; people <= 7; people++)
      for (int call = 0; call < Calls.NAMES; call++)
        for (int k = 0; k < Calls.arguments(call); k++) {
          if (!Calls.isPerson(call, k)) continue;
          Run r = held(LEAST.repeat(people));
          isBad(r, call, k, Calls.least(call, k) - 1);
          for (int nobody = people; nobody <= 8; nobody++) isBad(r, call, k, nobody);
          isNotBad(r, call, k, people - 1);
        }
    // As many as there are now: fewer than ahead of lay(), or more.
    Run r = b.run();
    r.is(4, "off", 6);
    r.lay(MOST);
    r.is(BAD, "off", 1);
    r.is(5, "off", 0);
    r.lay(LEAST.repeat(7));
    r.is(0, "off", 6);
    r.is(BAD, "off", 7);
    r.make("wipe");
    r.is(0, "off", 5);
  }

  private void notAsThingsStand() {
    b.term("NO: not as things stand.");
    Run r = held(LEAST + LEAST);
    r.make("off", 1);
    r.make("write", 'p');
    r.is(NO, "lay");
    r.is(NO, "weave", 0, 0, 1);
    r.is(NO, "off", 1);
    r.is(NO, "pace", 0, 7);
    r.is(NO, "shy", 1);
    r.make("undo");
    r.make("undo");
    r.make("undo");
    r.make("undo");
    r.is(NO, "undo");
    r.make("back");
    r.is(NO, "back");
    r.till(999);
    r.is(NO, "pass", 1);
  }

  private void thereIsNone() {
    b.term("NONE: there is none.");
    Run r = held("p0,0,1,0,0;p0,0,1,1,0;");
    r.is(NONE, "fault");
    r.is(1, "spread", 0, 0);
    r.is(NONE, "spread", 1, 0);
    r.make("told", 2, 4);
    r.is(NONE, "rings", 1);
    r.make("off", 1);
    r.is(NONE, "person", 1, 1);
    r.is(NONE, "person", 1, 2);
    r.is(NONE, "first", 0, 1);
  }

  private void full() {
    b.term("FULL.");
    Run r = held(LEAST);
    for (int i = 2; i <= 6; i++) r.is(i, "seen", 0, 2, 3);
    for (int i = 2; i <= 6; i++) r.is(i, "told", 2, 3);
    r.is(2, "keep");
    r.is(FULL, "seen", 0, 2, 4);
    r.is(FULL, "told", 2, 4);
    r.is(FULL, "keep");
    r.write("p".repeat(189));
    r.is(FULL, "write", ';');
  }

  private void firstInThisOrder() {
    b.term("Of several the first in this order;");
    // BAD ahead of NO.
    Run r = held(LEAST + LEAST).till(999);
    r.is(NO, "pass", 20);
    r.is(BAD, "pass", 21);
    r.is(BAD, "pass", 0);
    r.make("off", 1);
    r.is(BAD, "shy", 2);
    r.is(BAD, "weave", 1, 0, 10);
    r.is(BAD, "off", 2);
    // BAD ahead of NONE.
    r.is(NONE, "spread", 5, 1);
    r.is(BAD, "spread", 5, 2);
    r.is(BAD, "spread", 6, 1);
    r.is(NONE, "first", 0, 1);
    r.is(BAD, "first", 1, 1);
    r.is(BAD, "first", 1, 2);
    r.is(NONE, "person", 1, 1);
    r.is(BAD, "person", 1, 5);
    r.make("told", 2, 4);
    r.is(NONE, "rings", 1);
    r.is(BAD, "rings", 2);
    // BAD ahead of FULL.
    r = held(LEAST);
    for (int i = 2; i <= 6; i++) r.make("seen", 0, 0, 0);
    for (int i = 2; i <= 6; i++) r.make("told", 0, 0);
    r.write("p".repeat(189));
    r.is(FULL, "seen", 0, 0, 0);
    r.is(BAD, "seen", 1, 0, 0);
    r.is(BAD, "seen", 0, 25, 0);
    r.is(BAD, "seen", 0, 0, 12);
    r.is(FULL, "told", 0, 0);
    r.is(BAD, "told", 25, 0);
    r.is(BAD, "told", 0, 12);
    r.is(FULL, "write", 126);
    r.is(BAD, "write", 127);
  }

  private void nothingChanges() {
    b.term("nothing changes then.");
    // All that can be refused, one behind the other: what is behind them is as if they had not been.
    Run r = held("p0,0,1,11,1;p3,5,9,0,11;");
    r.make("off", 1);
    r.make("keep");
    r.write("p");
    for (int call = 0; call < Calls.NAMES; call++)
      for (int k = 0; k < Calls.arguments(call); k++) isBad(r, call, k, MAX);
    r.is(NO, "lay");
    r.is(NO, "off", 1);
    r.is(NO, "pace", 0, 7);
    r.is(NO, "weave", 0, 0, 1);
    r.is(FULL, "keep");
    int[] counts = {2, 5, 1, 0, 0, 0, 1, 1, 4, 2, 25};
    for (int what = 0; what <= 10; what++) r.is(counts[what], "count", what);
    r.is(3, "undo");
    r.is(5, "person", 1, 1);
    r.is(2, "undo");
    r.is(1, "person", 0, 4);
    r.is(1, "undo");
    r.is(3, "count", 1);
  }
}
