import java.util.Arrays;
import java.util.Random;

/** All promises: runs of 512 calls drawn by a seed, each answer being due by the model. */
public final class ModelTest {
  private static final Due due = new Due("ModelTest");
  private static final int RUNS = 1500;

  public static void main(String[] args) {
    for (int seed = 1; seed <= RUNS; seed++) run(seed);
    due.end();
  }

  private static void run(int seed) {
    Random r = new Random(seed);
    WreathOrbits x = new WreathOrbits();
    Model model = new Model();
    int left = 512;
    // Some runs keep one town for long, some are full of acts, so that late days are reached, too.
    int acts = r.nextInt(3);
    int layEach = r.nextBoolean() ? 400 : 100;
    while (left > 0) {
      if (left > 220 && r.nextInt(layEach) == 0) {
        left -= lay(seed, x, model, r);
        continue;
      }
      int i = r.nextInt(10) < acts ? 7 + r.nextInt(5) : r.nextInt(Calls.NAMES);
      String name = Calls.name(i);
      int[] a = Calls.draw(i, r);
      // Half of what is seen is so, or kinds() and speeds() would soon answer 0 alone.
      if (name.equals("seen") && r.nextBoolean()) a[2] = Math.max(0, model.call("behind", new int[] {a[1], a[0]}));
      if (isRare(name) && r.nextInt(4) != 0) continue;
      ask(seed, x, model, name, a);
      left--;
    }
  }

  private static boolean isRare(String name) {
    return name.equals("wipe") || name.equals("lay") || name.equals("forget");
  }

  private static int lay(int seed, WreathOrbits x, Model model, Random r) {
    ask(seed, x, model, "wipe", new int[0]);
    String text = Calls.text(r);
    for (int i = 0; i < text.length(); i++) ask(seed, x, model, "write", new int[] {text.charAt(i)});
    ask(seed, x, model, "fault", new int[0]);
    ask(seed, x, model, "lay", new int[0]);
    return text.length() + 3;
  }

  private static void ask(int seed, WreathOrbits x, Model model, String name, int[] a) {
    int want = model.call(name, a);
    due.is("run " + seed + ": " + name + Arrays.toString(a), Calls.make(x, name, a), want);
  }
}
