import java.util.Random;

/** The calls of the face by name, and runs of them drawn by a seed. */
final class Calls {
  /** Name, then for each argument its least and its most. */
  private static final Object[][] FACE = {
    {"write", 32, 126}, {"wipe"}, {"fault"}, {"lay"}, {"person", 0, 6, 0, 4}, {"near", 0, 6, 0, 6}, {"about", 0, 5},
    {"pass", 1, 20}, {"weave", 0, 6, 0, 5, 1, 9}, {"off", 0, 6}, {"pace", 0, 6, 0, 11}, {"undo"},
    {"behind", 0, 60, 0, 6}, {"first", 0, 6, 0, 6}, {"all", 1, 60}, {"paces", 0, 6, 0, 6, 1, 24}, {"shy", 0, 6},
    {"spread", 0, 5, -1, 6}, {"dear", 0, 1}, {"seen", 0, 6, 0, 24, 0, 11}, {"kinds", 0, 6}, {"speeds", 0, 6},
    {"told", 0, 24, 0, 11}, {"rings", 0, 1}, {"look", 0, 1}, {"forget"}, {"likely", 0, 6, 0, 6, 0, 7, 0, 10, 0, 1},
    {"season", 0, 9999, 1, 60, 0, 2}, {"keep"}, {"back"}, {"count", 0, 10}};
  static final int NAMES = FACE.length;

  static String name(int i) {
    return (String) FACE[i][0];
  }

  static int arguments(int i) {
    return (FACE[i].length - 1) / 2;
  }

  static int least(int i, int k) {
    return (Integer) FACE[i][2 * k + 1];
  }

  static int most(int i, int k) {
    return (Integer) FACE[i][2 * k + 2];
  }

  /** Whether an argument is a person: those alone end with 6. */
  static boolean isPerson(int i, int k) {
    return most(i, k) == 6;
  }

  /** Arguments for a call: most within what is told, some at or just outside its bounds, some far off. */
  static int[] draw(int i, Random r) {
    int[] a = new int[arguments(i)];
    for (int k = 0; k < a.length; k++) {
      int least = least(i, k), most = most(i, k);
      int how = r.nextInt(60);
      if (how == 0) a[k] = least - 1;
      else if (how == 1) a[k] = most + 1;
      else if (how == 2) a[k] = r.nextInt();
      else if (how < 6) a[k] = r.nextBoolean() ? least : most;
      else a[k] = least + r.nextInt(most - least + 1);
    }
    return a;
  }

  static int make(WreathOrbits x, String name, int[] a) {
    switch (name) {
      case "write": return x.write(a[0]);
      case "wipe": return x.wipe();
      case "fault": return x.fault();
      case "lay": return x.lay();
      case "person": return x.person(a[0], a[1]);
      case "near": return x.near(a[0], a[1]);
      case "about": return x.about(a[0]);
      case "pass": return x.pass(a[0]);
      case "weave": return x.weave(a[0], a[1], a[2]);
      case "off": return x.off(a[0]);
      case "pace": return x.pace(a[0], a[1]);
      case "undo": return x.undo();
      case "behind": return x.behind(a[0], a[1]);
      case "first": return x.first(a[0], a[1]);
      case "all": return x.all(a[0]);
      case "paces": return x.paces(a[0], a[1], a[2]);
      case "shy": return x.shy(a[0]);
      case "spread": return x.spread(a[0], a[1]);
      case "dear": return x.dear(a[0]);
      case "seen": return x.seen(a[0], a[1], a[2]);
      case "kinds": return x.kinds(a[0]);
      case "speeds": return x.speeds(a[0]);
      case "told": return x.told(a[0], a[1]);
      case "rings": return x.rings(a[0]);
      case "look": return x.look(a[0]);
      case "forget": return x.forget();
      case "likely": return x.likely(a[0], a[1], a[2], a[3], a[4]);
      case "season": return x.season(a[0], a[1], a[2]);
      case "keep": return x.keep();
      case "back": return x.back();
      case "count": return x.count(a[0]);
      default: throw new IllegalArgumentException(name);
    }
  }

  /** A text of people, few doors and widths in some so that they meet, a letter of it changed now and then. */
  static String text(Random r) {
    int doors = 1 + r.nextInt(6), widths = 1 + r.nextInt(9), paces = 1 + r.nextInt(12);
    StringBuilder text = new StringBuilder();
    int people = r.nextInt(12) == 0 ? 8 : r.nextInt(8);
    for (int p = 0; p < people; p++) {
      text.append('p').append(r.nextInt(4)).append(',').append(r.nextInt(doors)).append(',').append(1 + r.nextInt(widths));
      text.append(',').append(r.nextInt(12)).append(',').append(r.nextInt(paces)).append(';');
    }
    for (int change = r.nextInt(4); change == 0 && text.length() > 0; change = r.nextInt(2)) {
      int at = r.nextInt(text.length());
      char letter = "p0123456789,; q".charAt(r.nextInt(15));
      switch (r.nextInt(3)) {
        case 0: text.setCharAt(at, letter); break;
        case 1: text.insert(at, letter); break;
        default: text.deleteCharAt(at);
      }
    }
    return text.toString();
  }
}
