import java.math.BigInteger;
import java.util.ArrayDeque;
import java.util.ArrayList;
import java.util.Deque;
import java.util.List;
import java.util.function.IntPredicate;
import java.util.regex.Matcher;
import java.util.regex.Pattern;
import java.util.stream.IntStream;

/**
 * The document once more, written another way: days are leapt over by counting, widths are tried by
 * listing all ways, chances by listing all rests. Calls are made by name.
 */
final class Model {
  private static final int BAD = -1, NO = -2, FULL = -3, NONE = -4;
  private static final Pattern ITEM = Pattern.compile("p(\\d{1,2}),(\\d{1,2}),(\\d{1,2}),(\\d{1,2}),(\\d{1,2});");
  private static final String FIRST = "p0,0,3,0,1;p1,0,3,6,2;p2,0,3,4,5;p3,1,2,9,1;p0,1,2,3,7;p2,1,5,3,1;p1,4,1,0,0;";

  private record Who(int kind, int door, int wide, int yard, int pace) {
    boolean goes() {
      return door >= 0;
    }
  }

  private record State(List<Who> who, int day, int met) {}

  private String text = FIRST;
  private State now;
  private final List<State> undone = new ArrayList<>();
  private final Deque<State> kept = new ArrayDeque<>();
  private final List<int[]> seen = new ArrayList<>();
  private final List<int[]> told = new ArrayList<>();

  Model() {
    now = new State(read().get(), 0, 0);
    text = "";
  }

  int call(String name, int[] a) {
    switch (name) {
      case "write": return within(a[0], 32, 126) ? (text.length() == 200 ? FULL : (text += (char) a[0]).length()) : BAD;
      case "wipe": { int was = text.length(); text = ""; return was; }
      case "fault": return read().fault;
      case "lay": return lay();
      case "person": return isWho(a[0]) && within(a[1], 0, 4) ? tell(now.who.get(a[0]), a[1]) : BAD;
      case "near": return pair(a) ? near(now, a[0], a[1], 0) : BAD;
      case "about": return within(a[0], 0, 5) ? bits(now.who.size(), p -> now.who.get(p).door == a[0]) : BAD;
      case "pass": return pass(a[0]);
      case "weave": return weave(a[0], a[1], a[2]);
      case "off": return off(a[0]);
      case "pace": return pace(a[0], a[1]);
      case "undo": return undo();
      case "behind": return within(a[0], 0, 60) && isWho(a[1]) ? at(now.who.get(a[1]), now.day, a[0]) : BAD;
      case "first": return pair(a) ? lowest(61, n -> near(now, a[0], a[1], n) == 2) : BAD;
      case "all": return within(a[0], 1, 60) ? meetings(now, a[0]) : BAD;
      case "paces": return pair(a) && within(a[2], 1, 24) ? bits(12, s -> near(with(a[0], paced(a[0], s)), a[0], a[1], a[2]) == 2) : BAD;
      case "shy": return shy(a[0]);
      case "spread": return spread(a[0], a[1]);
      case "dear": return dear(a[0]);
      case "seen": return isWho(a[0]) && within(a[1], 0, 24) && within(a[2], 0, 11) ? put(seen, a) : BAD;
      case "kinds": return isWho(a[0]) ? bits(4, k -> fits(a[0], kinded(a[0], k))) : BAD;
      case "speeds": return isWho(a[0]) ? bits(12, s -> fits(a[0], paced(a[0], s))) : BAD;
      case "told": return within(a[0], 0, 24) && within(a[1], 0, 11) ? put(told, a) : BAD;
      case "rings": return !within(a[0], 0, 1) ? BAD : a[0] == 0 ? rings().size() : rings().isEmpty() ? NONE : rings().get(0);
      case "look": return look(a[0]);
      case "forget": { int was = seen.size() + told.size(); seen.clear(); told.clear(); return was; }
      case "likely": return likely(a);
      case "season": return season(a[0], a[1], a[2]);
      case "keep": if (kept.size() == 2) return FULL; kept.push(now); return kept.size();
      case "back": if (kept.isEmpty()) return NO; now = kept.pop(); undone.clear(); return kept.size();
      case "count": return count(a[0]);
      default: throw new IllegalArgumentException(name);
    }
  }

  private static boolean within(int n, int least, int most) {
    return n >= least && n <= most;
  }

  private boolean isWho(int p) {
    return within(p, 0, now.who.size() - 1);
  }

  private boolean pair(int[] a) {
    return isWho(a[0]) && isWho(a[1]) && a[0] != a[1];
  }

  private static int bits(int n, IntPredicate is) {
    return IntStream.range(0, n).filter(is).map(i -> 1 << i).sum();
  }

  private static int lowest(int n, IntPredicate is) {
    return IntStream.range(0, n).filter(is).findFirst().orElse(NONE);
  }

  private record Reading(List<Who> get, int fault) {}

  private Reading read() {
    List<Who> who = new ArrayList<>();
    Matcher m = ITEM.matcher(text);
    int at = 0;
    while (at < text.length()) {
      if (who.size() == 7 || !m.region(at, text.length()).lookingAt()) return new Reading(who, at);
      int[] v = IntStream.rangeClosed(1, 5).map(i -> Integer.parseInt(m.group(i))).toArray();
      if (v[0] > 3 || v[1] > 5 || v[2] < 1 || v[2] > 9 || v[3] > 11 || v[4] > 11) return new Reading(who, at);
      who.add(new Who(v[0], v[1], v[2], v[3], v[4]));
      at = m.end();
    }
    return new Reading(who, NONE);
  }

  private int lay() {
    Reading r = read();
    if (r.fault != NONE || r.get.isEmpty()) return NO;
    now = new State(r.get, 0, 0);
    undone.clear();
    kept.clear();
    seen.clear();
    told.clear();
    return r.get.size();
  }

  private static int tell(Who w, int what) {
    return new int[] {w.kind, w.goes() ? w.door : NONE, w.goes() ? w.wide : NONE, w.yard, w.pace}[what];
  }

  /** How many of the days from day on, n of them, leave 0 by m. */
  private static int leaving0(int day, int n, int m) {
    return (day + n + m - 1) / m - (day + m - 1) / m;
  }

  private static int at(Who w, int day, int n) {
    if (!w.goes()) return w.yard;
    int far;
    if (w.kind == 0) far = w.pace * n;
    else if (w.kind == 1) far = w.pace * leaving0(day, n, 2);
    else if (w.kind == 2) far = 2 * w.pace * n;
    else far = w.pace * n + leaving0(day, n, 3);
    return (w.yard + far) % 12;
  }

  private static int near(State s, int p, int q, int n) {
    Who a = s.who.get(p), b = s.who.get(q);
    if (!a.goes() || !b.goes() || a.door != b.door || at(a, s.day, n) != at(b, s.day, n)) return 0;
    return a.wide == b.wide ? 2 : 1;
  }

  private static int twos(State s, int how, int n) {
    int many = 0;
    for (int q = 0; q < s.who.size(); q++)
      for (int p = 0; p < q; p++)
        if (near(s, p, q, n) == how) many++;
    return many;
  }

  private static int meetings(State s, int n) {
    return IntStream.rangeClosed(1, n).map(i -> twos(s, 2, i)).sum();
  }

  private static State later(State s, int n) {
    List<Who> who = new ArrayList<>();
    for (Who w : s.who) who.add(new Who(w.kind, w.door, w.wide, at(w, s.day, n), w.pace));
    return new State(who, s.day + n, s.met + meetings(s, n));
  }

  private static State with(State s, int p, Who w) {
    List<Who> who = new ArrayList<>(s.who);
    who.set(p, w);
    return new State(who, s.day, s.met);
  }

  private State with(int p, Who w) {
    return with(now, p, w);
  }

  private Who paced(int p, int s) {
    Who w = now.who.get(p);
    return new Who(w.kind, w.door, w.wide, w.yard, s);
  }

  private Who kinded(int p, int k) {
    Who w = now.who.get(p);
    return new Who(k, w.door, w.wide, w.yard, w.pace);
  }

  private void become(State s) {
    undone.add(now);
    if (undone.size() > 8) undone.remove(0);
    now = s;
  }

  private int pass(int n) {
    if (!within(n, 1, 20)) return BAD;
    if (now.day + n > 999) return NO;
    int met = meetings(now, n);
    become(later(now, n));
    return met;
  }

  private int weave(int p, int d, int w) {
    if (!isWho(p) || !within(d, 0, 5) || !within(w, 1, 9)) return BAD;
    Who a = now.who.get(p);
    if (a.door == d && a.wide == w) return NO;
    become(with(p, new Who(a.kind, d, w, a.yard, a.pace)));
    return (int) now.who.stream().filter(b -> b.door == d).count();
  }

  private int off(int p) {
    if (!isWho(p)) return BAD;
    Who a = now.who.get(p);
    if (!a.goes()) return NO;
    become(with(p, new Who(a.kind, -9, -9, a.yard, a.pace)));
    return a.door;
  }

  private int pace(int p, int s) {
    if (!isWho(p) || !within(s, 0, 11)) return BAD;
    int was = now.who.get(p).pace;
    if (was == s) return NO;
    become(with(p, paced(p, s)));
    return was;
  }

  private int undo() {
    if (undone.isEmpty()) return NO;
    now = undone.remove(undone.size() - 1);
    return undone.size();
  }

  private int shy(int p) {
    if (!isWho(p)) return BAD;
    Who a = now.who.get(p);
    if (!a.goes()) return NO;
    for (int w = 1; w <= 9; w++) {
      State s = with(p, new Who(a.kind, a.door, w, a.yard, a.pace));
      boolean meets = false;
      for (int q = 0; q < now.who.size(); q++)
        for (int n = 0; n <= 24; n++)
          if (q != p && near(s, p, q, n) == 2) meets = true;
      if (!meets) return w;
    }
    return NONE;
  }

  private int spread(int d, int p) {
    if (!within(d, 0, 5) || !(p == -1 || isWho(p))) return BAD;
    List<Integer> members = new ArrayList<>();
    for (int q = 0; q < now.who.size(); q++)
      if (now.who.get(q).door == d) members.add(q);
    int[] best = null;
    for (int[] way : ways(members.size()))
      if (parted(members, way) && (best == null || most(way) < most(best))) best = way;
    if (p == -1) return most(best);
    return members.contains(p) ? best[members.indexOf(p)] : NONE;
  }

  private static int most(int[] way) {
    return IntStream.of(way).max().orElse(0);
  }

  private boolean parted(List<Integer> members, int[] way) {
    for (int i = 0; i < way.length; i++)
      for (int j = 0; j < i; j++)
        for (int n = 0; n <= 24 && way[i] == way[j]; n++)
          if (near(now, members.get(i), members.get(j), n) > 0) return false;
    return true;
  }

  private static final List<List<int[]>> WAYS = new ArrayList<>();

  /** All ways to number n by widths as they are first used, in order. */
  private static List<int[]> ways(int n) {
    if (WAYS.isEmpty()) WAYS.add(List.of(new int[0]));
    while (WAYS.size() <= n) {
      List<int[]> next = new ArrayList<>();
      for (int[] way : WAYS.get(WAYS.size() - 1))
        for (int w = 1; w <= most(way) + 1; w++) {
          int[] longer = java.util.Arrays.copyOf(way, way.length + 1);
          longer[way.length] = w;
          next.add(longer);
        }
      WAYS.add(next);
    }
    return WAYS.get(n);
  }

  private int dear(int what) {
    if (!within(what, 0, 1)) return BAD;
    int[] goers = new int[6];
    for (Who w : now.who) if (w.goes()) goers[w.door]++;
    int most = IntStream.of(goers).max().getAsInt();
    return what == 1 ? most : lowest(6, d -> goers[d] == most);
  }

  private static int put(List<int[]> notes, int[] a) {
    if (notes.size() == 6) return FULL;
    notes.add(a.clone());
    return notes.size();
  }

  private boolean fits(int p, Who w) {
    return seen.stream().allMatch(s -> s[0] != p || at(w, now.day, s[1]) == s[2]);
  }

  private List<Integer> rings() {
    List<Integer> rings = new ArrayList<>();
    for (int y = 0; y < 12; y++)
      for (int s = 0; s < 12; s++) {
        Who stranger = new Who(0, 0, 1, y, s);
        if (told.stream().allMatch(t -> at(stranger, now.day, t[0]) == t[1])) rings.add(12 * y + s);
      }
    return rings;
  }

  private int look(int what) {
    if (!within(what, 0, 1)) return BAD;
    List<Integer> rings = rings();
    int[] many = IntStream.rangeClosed(0, 12)
        .map(n -> (int) rings.stream().map(r -> (r / 12 + n * (r % 12)) % 12).distinct().count()).toArray();
    int most = IntStream.of(many).max().getAsInt();
    return what == 1 ? most : lowest(13, n -> many[n] == most);
  }

  private int likely(int[] a) {
    if (!pair(a) || !within(a[2], 0, 7) || !within(a[3], 0, 10) || !within(a[4], 0, 1)) return BAD;
    Who p = now.who.get(a[0]), q = now.who.get(a[1]);
    int n = a[2];
    BigInteger above = BigInteger.ZERO, below = BigInteger.TEN.pow(n);
    for (int rests = 0; rests < 1 << n; rests++) {
      int yard = p.yard;
      BigInteger weight = BigInteger.ONE;
      for (int i = 0; i < n; i++) {
        boolean rest = (rests >> i & 1) == 1;
        weight = weight.multiply(BigInteger.valueOf(rest ? a[3] : 10 - a[3]));
        if (!rest) yard = at(new Who(p.kind, p.door, p.wide, yard, p.pace), now.day + i, 1);
      }
      if (p.goes() && q.goes() && p.door == q.door && p.wide == q.wide && yard == at(q, now.day, n)) above = above.add(weight);
    }
    BigInteger gcd = above.gcd(below);
    return (a[4] == 0 ? above : below).divide(gcd).intValueExact();
  }

  private int season(int z, int n, int what) {
    if (!within(z, 0, 9999) || !within(n, 1, 60) || !within(what, 0, 2)) return BAD;
    State s = new State(now.who, now.day, 0);
    for (int i = 0; i < n; i++) {
      BigInteger x = BigInteger.valueOf(7919L * z + 6151L * i + 1);
      int draw = x.multiply(x).mod(BigInteger.valueOf(65521)).intValueExact() / 2;
      int p = draw % s.who.size();
      Who w = s.who.get(p);
      if (draw / 8 % 6 == 0) s = with(s, p, new Who(w.kind, draw / 64 % 6, draw / 512 % 9 + 1, w.yard, w.pace));
      if (draw / 8 % 6 == 1) s = with(s, p, new Who(w.kind, -9, -9, w.yard, w.pace));
      if (draw / 8 % 6 == 2) s = with(s, p, new Who(w.kind, w.door, w.wide, w.yard, draw / 64 % 12));
      s = later(s, 1);
    }
    if (what == 0) return s.met;
    return what == 1 ? (int) s.who.stream().filter(Who::goes).count() : s.who.stream().mapToInt(Who::yard).sum();
  }

  private int count(int what) {
    if (!within(what, 0, 10)) return BAD;
    return new int[] {now.who.size(), now.day, (int) now.who.stream().filter(Who::goes).count(), twos(now, 2, 0), twos(now, 1, 0),
        now.met, seen.size(), told.size(), undone.size(), kept.size(), text.length()}[what];
  }
}
