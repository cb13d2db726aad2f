/** What the tests share: answers that are due, counted and told when they are not given. */
final class Due {
  private final String test;
  private int calls = 0;
  private int wrong = 0;

  Due(String test) {
    this.test = test;
  }

  void is(String what, int got, int want) {
    calls++;
    if (got != want) {
      wrong++;
      if (wrong <= 40) System.out.println(test + ": " + what + " answered " + got + ", due is " + want);
    }
  }

  /** Ends the test: exit code 1 if an answer was not as due, or if none was asked for. */
  void end() {
    System.out.println(test + ": " + calls + " answers, " + wrong + " not as due");
    if (wrong != 0 || calls == 0) System.exit(1);
  }

  static void write(WreathOrbits x, String text) {
    for (int i = 0; i < text.length(); i++) x.write(text.charAt(i));
  }

  /** A new object whose town is laid by a text. */
  static WreathOrbits town(String text) {
    WreathOrbits x = new WreathOrbits();
    write(x, text);
    x.lay();
    return x;
  }

  /** All that count() and person() tell, to see that a call changed nothing. */
  static String state(WreathOrbits x) {
    StringBuilder all = new StringBuilder();
    for (int what = 0; what <= 10; what++) all.append(x.count(what)).append(' ');
    for (int p = 0; p < x.count(0); p++) {
      for (int what = 0; what <= 4; what++) all.append(x.person(p, what)).append(' ');
      all.append(x.kinds(p)).append(' ').append(x.speeds(p)).append(' ');
    }
    return all.append(x.rings(0)).append(' ').append(x.rings(1)).append(' ').append(x.fault()).toString();
  }

  void same(String what, String got, String want) {
    is(what + ", the state being " + got + " and not " + want, got.equals(want) ? 0 : 1, 0);
  }
}
