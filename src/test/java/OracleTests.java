import java.util.ArrayDeque;
import java.util.ArrayList;
import java.util.Arrays;
import java.util.List;
import java.util.Random;

/** Long runs of mixed calls, each answer held against a second, plainer telling of the document. */
public final class OracleTests {
  private static int wrong = 0;

  public static void main(String[] args) {
    for (int seed = 0; seed < 400; seed++) {
      new Run(seed).play(300);
    }
    System.out.println(wrong == 0 ? "the oracle agrees" : wrong + " answers differ from the oracle's");
    if (wrong != 0) {
      System.exit(1);
    }
  }

  /** One run of calls on a bench and on the oracle. */
  private static final class Run {
    final int seed;
    final Random random;
    final LegBench bench = new LegBench();
    final Oracle oracle = new Oracle();
    final StringBuilder told = new StringBuilder();
    // In every second run the middle is mostly amid the legs and the pace is slow, so that more rows stand.
    final boolean calm;

    Run(int seed) {
      this.calm = seed % 2 == 1;
      this.seed = seed;
      this.random = new Random(seed);
    }

    void play(int calls) {
      for (int c = 0; c < calls; c++) {
        if (!call()) {
          wrong++;
          System.out.println("seed " + seed + ":" + told);
          return;
        }
      }
    }

    int between(int least, int most) {
      return least + random.nextInt(most - least + 1);
    }

    // Mostly what can be, at times one beyond it.
    int near(int least, int most) {
      int dice = random.nextInt(20);
      return dice == 0 ? least - 1 : dice == 1 ? most + 1 : between(least, most);
    }

    // Small places make mirrors and feet on one line likely.
    int place() {
      return random.nextInt(15) == 0 ? near(-20, 20) : between(-4, 4);
    }

    int legs() {
      return oracle.s.k;
    }

    int ticks() {
      return oracle.s.sets.length;
    }

    boolean same(String call, long got, long want) {
      told.append("\n  ").append(call).append(" = ").append(got);
      if (got != want) {
        told.append(", the oracle says ").append(want);
      }
      return got == want;
    }

    boolean call() {
      int dice = random.nextInt(26);
      if (dice < 10) {
        return change(dice);
      }
      if (dice < 19) {
        return look(dice);
      }
      return tellRows(dice);
    }

    boolean change(int dice) {
      int x = place();
      int y = place();
      switch (dice) {
        case 0: {
          if (random.nextInt(3) != 0) {
            return true;
          }
          int k = near(2, 8);
          int kind = near(0, 2);
          return same("walker(" + k + ", " + kind + ")", bit(bench.walker(k, kind)), bit(oracle.walker(k, kind)));
        }
        case 1:
        case 2: {
          int i = near(0, legs() - 1);
          if (dice == 2 && i >= 0 && i < legs() && random.nextBoolean()) {
            x = -oracle.s.xs[random.nextInt(legs())];
            y = oracle.s.ys[random.nextInt(legs())];
          }
          return same("leg(" + i + ", " + x + ", " + y + ")", bit(bench.leg(i, x, y)), bit(oracle.leg(i, x, y)));
        }
        case 3: {
          if (calm && random.nextInt(5) != 0) {
            x = (int) Math.round(Arrays.stream(oracle.s.xs).average().orElse(0));
            y = (int) Math.round(Arrays.stream(oracle.s.ys).average().orElse(0));
          }
          if (random.nextBoolean()) {
            x = 0;
          }
          return same("middle(" + x + ", " + y + ")", bit(bench.middle(x, y)), bit(oracle.middle(x, y)));
        }
        case 4: {
          int v = random.nextInt(3) == 0 ? 0 : near(0, calm ? 2 : 9);
          int r = near(0, 40);
          return same("pace(" + v + ", " + r + ")", bit(bench.pace(v, r)), bit(oracle.pace(v, r)));
        }
        case 5: {
          int kind = near(0, 2);
          int n = near(1, 16);
          int[] w = words();
          return same("gait(" + kind + ", " + n + ", " + Arrays.toString(w) + ")",
              bench.gait(kind, n, w[0], w[1], w[2], w[3]), oracle.gait(kind, n, w));
        }
        case 6: {
          int t = near(0, ticks() - 1);
          int set = near(0, (1 << legs()) - 1);
          return same("tick(" + t + ", " + set + ")", bit(bench.tick(t, set)), bit(oracle.tick(t, set)));
        }
        case 7: {
          int n = near(2, 8);
          int u = near(1, Math.max(1, n - 1));
          int offsets = offsets(n);
          return same("regular(" + n + ", " + u + ", " + offsets + ")",
              bit(bench.regular(n, u, offsets)), bit(oracle.regular(n, u, offsets)));
        }
        default:
          return random.nextInt(3) != 0 || same("undo()", bit(bench.undo()), bit(oracle.undo()));
      }
    }

    int[] words() {
      int[] w = new int[4];
      int dense = calm ? 1 + random.nextInt(2) : random.nextInt(3);
      for (int i = 0; i < 4; i++) {
        w[i] = random.nextInt();
        if (dense == 1) {
          w[i] |= random.nextInt() | random.nextInt();
        } else if (dense == 2) {
          int pairs = random.nextInt() & 0x55555555;
          w[i] = (pairs | pairs << 1) & (random.nextBoolean() ? -1 : 0xff00ff);
        }
      }
      return w;
    }

    int offsets(int n) {
      int packed = random.nextInt(16);
      for (int i = 1; i < 8; i++) {
        int offset = i < legs() ? random.nextInt(Math.max(n, 1)) : random.nextInt(16);
        packed |= (random.nextInt(60) == 0 ? random.nextInt(16) : offset) << (4 * i);
      }
      return packed;
    }

    boolean look(int dice) {
      int t = near(0, ticks() - 1);
      switch (dice) {
        case 10: {
          int what = near(-1, 40);
          return same("about(" + what + ")", bench.about(what), oracle.about(what));
        }
        case 11:
          return same("down(" + t + ")", bench.down(t), oracle.down(t));
        case 12: {
          int i = near(0, legs() - 1);
          int what = near(0, 1);
          return same("foot(" + i + ", " + t + ", " + what + ")", bench.foot(i, t, what), oracle.foot(i, t, what));
        }
        case 13:
          return same("stands(" + t + ")", bench.stands(t), oracle.stands(t));
        case 14:
          return same("walks()", bit(bench.walks()), bit(oracle.s.walks()));
        case 15:
          return same("why()", bench.why(), oracle.why());
        case 16: {
          int what = near(0, 1);
          return same("margin(" + t + ", " + what + ")", bench.margin(t, what), oracle.margin(t, what));
        }
        case 17: {
          int what = near(0, 2);
          return same("worst(" + what + ")", bench.worst(what), oracle.worst(what));
        }
        default:
          return same("fastest()", bench.fastest(), oracle.fastest());
      }
    }

    boolean tellRows(int dice) {
      int n = near(2, random.nextInt(3) == 0 ? 8 : 4);
      int u = random.nextInt(3) == 0 ? near(1, Math.max(1, n - 1)) : 1;
      String of = n + ", " + u + ")";
      switch (dice) {
        case 19:
          return same("many(" + of, bench.many(n, u), oracle.many(n, u));
        case 20: {
          int k = near(0, 12);
          return same("pick(" + k + " of " + of, bit(bench.pick(n, u, k)), bit(oracle.pick(n, u, k)));
        }
        case 21:
          if (random.nextInt(4) != 0) {
            n = ticks();
          }
          return same("rank(" + n + ", " + u + ")", bench.rank(n, u), oracle.rank(n, u));
        case 22:
          return same("unlike(" + of, bench.unlike(n, u), oracle.unlike(n, u));
        case 23:
          return same("best(" + of, bench.best(n, u), oracle.best(n, u));
        case 24: {
          int i = near(0, legs() - 1);
          return same("without(" + i + ", " + of, bench.without(i, n, u), oracle.without(i, n, u));
        }
        default:
          if (random.nextBoolean()) {
            int y = place();
            return same("loads(" + y + ")", bench.loads(y), oracle.loads(y));
          }
          int from = near(0, (1 << legs()) - 1);
          int to = near(0, (1 << legs()) - 1);
          int m = random.nextInt(4) == 0 ? near(1, 8) : near(1, 3);
          return same("way(" + from + ", " + to + ", " + m + ")", bench.way(from, to, m), oracle.way(from, to, m));
      }
    }

    static long bit(boolean b) {
      return b ? 1 : 0;
    }
  }

  /** A walker and its gait, told from the definitions alone. */
  private static final class State {
    int k;
    int kind;
    int[] xs;
    int[] ys;
    int mx;
    int my;
    int v;
    int reach;
    int[] sets;

    State(int k, int kind) {
      this.k = k;
      this.kind = kind;
      xs = new int[k];
      ys = new int[k];
      for (int i = 0; i < k; i++) {
        xs[i] = i % 2 == 0 ? -3 : 3;
        ys[i] = 4 * (i / 2);
      }
      my = 2 * ((k + 1) / 2 - 1);
      reach = 10;
      sets = new int[] {(1 << k) - 1};
    }

    State copy() {
      State c = new State(k, kind);
      c.xs = xs.clone();
      c.ys = ys.clone();
      c.mx = mx;
      c.my = my;
      c.v = v;
      c.reach = reach;
      c.sets = sets.clone();
      return c;
    }

    boolean isDown(int i, int t) {
      return (sets[Math.floorMod(t, sets.length)] & 1 << i) != 0;
    }

    boolean isAlwaysDown(int i) {
      return Arrays.stream(sets).allMatch(set -> (set & 1 << i) != 0);
    }

    int twin(int i) {
      for (int j = 0; j < k; j++) {
        if (xs[j] == -xs[i] && ys[j] == ys[i]) {
          return j;
        }
      }
      return -1;
    }

    boolean isMirrored() {
      for (int i = 0; i < k; i++) {
        if (twin(i) < 0) {
          return false;
        }
      }
      return mx == 0;
    }

    // {len, j} of the stance that has tick t.
    int[] stance(int i, int t) {
      if (isAlwaysDown(i)) {
        return new int[] {1, 0};
      }
      int before = 0;
      while (isDown(i, t - before - 1)) {
        before++;
      }
      int after = 0;
      while (isDown(i, t + after + 1)) {
        after++;
      }
      return new int[] {before + 1 + after, before};
    }

    int twiceY(int i, int t) {
      int[] s = stance(i, t);
      return 2 * ys[i] + v * (s[0] - 1 - 2 * s[1]);
    }

    List<long[]> feet(int t) {
      List<long[]> feet = new ArrayList<>();
      for (int i = 0; i < k; i++) {
        if (isDown(i, t)) {
          feet.add(new long[] {xs[i], twiceY(i, t)});
        }
      }
      return feet;
    }

    boolean pairsHold(int set) {
      for (int i = 0; i + 1 < k; i += 2) {
        if ((set >> i & 1) != (set >> i + 1 & 1)) {
          return false;
        }
      }
      return true;
    }

    boolean standsAt(int t) {
      int n = sets.length;
      if (sets[t] == 0) {
        boolean all = Arrays.stream(sets).allMatch(set -> set == 0);
        if (kind != 1 || all) {
          return false;
        }
        // Three empty ticks in a row that have t?
        for (int a = t - 2; a <= t; a++) {
          int empty = 0;
          for (int b = a; b < a + 3; b++) {
            empty += sets[Math.floorMod(b, n)] == 0 ? 1 : 0;
          }
          if (empty == 3) {
            return false;
          }
        }
        return true;
      }
      return (kind != 2 || pairsHold(sets[t])) && Plane.holds(feet(t), mx, 2 * my);
    }

    boolean isBeyond(int i) {
      for (int t = 0; t < sets.length; t++) {
        if (isDown(i, t) && v * (stance(i, t)[0] - 1) > 2 * reach) {
          return true;
        }
      }
      return false;
    }

    boolean walks() {
      for (int t = 0; t < sets.length; t++) {
        if (!standsAt(t)) {
          return false;
        }
      }
      for (int i = 0; i < k; i++) {
        if (isBeyond(i)) {
          return false;
        }
      }
      return true;
    }

    // {above, below} in lowest terms, or null.
    long[] margin(int t) {
      return Plane.margin(feet(t), mx, 2 * my);
    }

    // {above, below, tick}, or null.
    long[] worst() {
      long[] worst = null;
      for (int t = 0; t < sets.length; t++) {
        if (sets[t] != 0) {
          long[] m = margin(t);
          if (m == null) {
            return null;
          }
          if (worst == null || Plane.compare(m, worst) < 0) {
            worst = new long[] {m[0], m[1], t};
          }
        }
      }
      return worst;
    }

    void lay(int n, int u, int[] offsets) {
      sets = new int[n];
      for (int t = 0; t < n; t++) {
        for (int i = 0; i < k; i++) {
          if (Math.floorMod(t - offsets[i], n) >= u) {
            sets[t] |= 1 << i;
          }
        }
      }
    }

    List<int[]> standing(int n, int u) {
      List<int[]> found = new ArrayList<>();
      State trial = copy();
      trial.collect(n, u, new int[k], 1, found);
      return found;
    }

    void collect(int n, int u, int[] offsets, int i, List<int[]> found) {
      if (i == k) {
        lay(n, u, offsets);
        if (walks()) {
          found.add(offsets.clone());
        }
        return;
      }
      for (int o = 0; o < n; o++) {
        offsets[i] = o;
        collect(n, u, offsets, i + 1, found);
      }
    }
  }

  /** Points in the plane, by other ways than the bench's. */
  private static final class Plane {
    static long cross(long[] a, long[] b, long[] c) {
      return (b[0] - a[0]) * (c[1] - a[1]) - (b[1] - a[1]) * (c[0] - a[0]);
    }

    static boolean isOnLine(long[] a, long[] b, long[] p) {
      return cross(a, b, p) == 0
          && Math.min(a[0], b[0]) <= p[0] && p[0] <= Math.max(a[0], b[0])
          && Math.min(a[1], b[1]) <= p[1] && p[1] <= Math.max(a[1], b[1]);
    }

    // In the least bulging figure is what is in a triangle of its points.
    static boolean holds(List<long[]> feet, long x, long y) {
      long[] p = {x, y};
      for (long[] a : feet) {
        for (long[] b : feet) {
          if (isOnLine(a, b, p)) {
            return true;
          }
          for (long[] c : feet) {
            if (cross(a, b, c) > 0 && cross(a, b, p) >= 0 && cross(b, c, p) >= 0 && cross(c, a, p) >= 0) {
              return true;
            }
          }
        }
      }
      return false;
    }

    static int compare(long[] a, long[] b) {
      return Long.compare(a[0] * b[1], b[0] * a[1]);
    }

    // The line through x cuts the border of the figure: a monotone chain of edges.
    static long[] margin(List<long[]> feet, long x, long y) {
      List<long[]> border = border(feet);
      long[] low = null;
      long[] high = null;
      for (int i = 0; i < border.size(); i++) {
        long[] a = border.get(i);
        long[] b = border.get((i + 1) % border.size());
        for (long[] cut : cuts(a, b, x)) {
          low = low == null || compare(cut, low) < 0 ? cut : low;
          high = high == null || compare(cut, high) > 0 ? cut : high;
        }
      }
      if (low == null) {
        return null;
      }
      long[] under = shorten(y * low[1] - low[0], 2 * low[1]);
      long[] over = shorten(high[0] - y * high[1], 2 * high[1]);
      return compare(under, over) <= 0 ? under : over;
    }

    static List<long[]> cuts(long[] a, long[] b, long x) {
      List<long[]> cuts = new ArrayList<>();
      if (a[0] == x) {
        cuts.add(new long[] {a[1], 1});
      }
      if (b[0] == x) {
        cuts.add(new long[] {b[1], 1});
      }
      if (a[0] != b[0] && Math.min(a[0], b[0]) <= x && x <= Math.max(a[0], b[0])) {
        long below = b[0] - a[0];
        long above = a[1] * below + (b[1] - a[1]) * (x - a[0]);
        cuts.add(below > 0 ? new long[] {above, below} : new long[] {-above, -below});
      }
      return cuts;
    }

    static List<long[]> border(List<long[]> feet) {
      List<long[]> sorted = new ArrayList<>(feet);
      sorted.sort((a, b) -> a[0] != b[0] ? Long.compare(a[0], b[0]) : Long.compare(a[1], b[1]));
      List<long[]> border = new ArrayList<>(half(sorted));
      java.util.Collections.reverse(sorted);
      border.addAll(half(sorted));
      return border;
    }

    static List<long[]> half(List<long[]> sorted) {
      List<long[]> half = new ArrayList<>();
      for (long[] p : sorted) {
        while (half.size() > 1 && cross(half.get(half.size() - 2), half.get(half.size() - 1), p) <= 0) {
          half.remove(half.size() - 1);
        }
        half.add(p);
      }
      return half;
    }

    static long[] shorten(long above, long below) {
      for (long d = below; d > 1; d--) {
        if (above % d == 0 && below % d == 0) {
          return new long[] {above / d, below / d};
        }
      }
      return new long[] {above, below};
    }
  }

  /** The document's calls. */
  private static final class Oracle {
    State s = new State(4, 0);
    final ArrayDeque<State> kept = new ArrayDeque<>();

    State change() {
      kept.addLast(s);
      if (kept.size() > 8) {
        kept.removeFirst();
      }
      s = s.copy();
      return s;
    }

    static boolean in(int value, int least, int most) {
      return value >= least && value <= most;
    }

    boolean hasTick(int t) {
      return in(t, 0, s.sets.length - 1);
    }

    boolean walker(int k, int kind) {
      if (!in(k, 2, 8) || !in(kind, 0, 2)) {
        return false;
      }
      change();
      s = new State(k, kind);
      return true;
    }

    boolean leg(int i, int x, int y) {
      if (!in(i, 0, s.k - 1) || !in(x, -20, 20) || !in(y, -20, 20)) {
        return false;
      }
      for (int j = 0; j < s.k; j++) {
        if (j != i && s.xs[j] == x && s.ys[j] == y) {
          return false;
        }
      }
      change();
      s.xs[i] = x;
      s.ys[i] = y;
      return true;
    }

    boolean middle(int x, int y) {
      if (!in(x, -20, 20) || !in(y, -20, 20)) {
        return false;
      }
      change();
      s.mx = x;
      s.my = y;
      return true;
    }

    boolean pace(int v, int reach) {
      if (!in(v, 0, 9) || !in(reach, 0, 40)) {
        return false;
      }
      change();
      s.v = v;
      s.reach = reach;
      return true;
    }

    int gait(int kind, int n, int[] words) {
      if (!in(kind, 0, 2) || !in(n, 1, 16)) {
        return -1;
      }
      change();
      s.sets = new int[n];
      for (int t = 0; t < n; t++) {
        s.sets[t] = (int) ((words[t / 4] & 0xffffffffL) / (1L << 8 * (t % 4)) % 256) % (1 << s.k);
      }
      return n;
    }

    boolean tick(int t, int set) {
      if (!hasTick(t) || !in(set, 0, (1 << s.k) - 1)) {
        return false;
      }
      change().sets[t] = set;
      return true;
    }

    boolean regular(int n, int u, int packed) {
      if (!in(n, 2, 8) || !in(u, 1, n - 1)) {
        return false;
      }
      int[] offsets = new int[s.k];
      for (int i = 1; i < s.k; i++) {
        offsets[i] = (int) ((packed & 0xffffffffL) / (1L << 4 * i) % 16);
        if (offsets[i] >= n) {
          return false;
        }
      }
      change().lay(n, u, offsets);
      return true;
    }

    int about(int what) {
      if (in(what, 0, 7)) {
        return new int[] {s.k, s.kind, s.sets.length, s.v, s.reach, s.mx, s.my, s.isMirrored() ? 1 : 0}[what];
      }
      if (in(what, 10, 9 + s.k)) {
        return s.xs[what - 10];
      }
      if (in(what, 20, 19 + s.k)) {
        return s.ys[what - 20];
      }
      return in(what, 30, 29 + s.k) && s.twin(what - 30) >= 0 ? s.twin(what - 30) : -100;
    }

    int down(int t) {
      return hasTick(t) ? s.sets[t] : -1;
    }

    int foot(int i, int t, int what) {
      if (!in(i, 0, s.k - 1) || !hasTick(t) || !in(what, 0, 1) || !s.isDown(i, t)) {
        return -1000;
      }
      return what == 0 ? 2 * s.xs[i] : s.twiceY(i, t);
    }

    int stands(int t) {
      return !hasTick(t) ? -1 : s.standsAt(t) ? 1 : 0;
    }

    int why() {
      for (int t = 0; t < s.sets.length; t++) {
        if (!s.standsAt(t)) {
          return t;
        }
      }
      for (int i = 0; i < s.k; i++) {
        if (s.isBeyond(i)) {
          return 100 + i;
        }
      }
      return -1;
    }

    long margin(int t, int what) {
      if (!hasTick(t) || !in(what, 0, 1)) {
        return -10000;
      }
      long[] m = s.margin(t);
      return m == null ? -10000 : m[what];
    }

    long worst(int what) {
      long[] w = s.worst();
      return w == null || !in(what, 0, 2) ? -10000 : w[what];
    }

    int fastest() {
      State trial = s.copy();
      int fastest = -1;
      for (trial.v = 0; trial.v <= 9; trial.v++) {
        if (trial.walks()) {
          fastest = trial.v;
        }
      }
      return fastest;
    }

    static boolean told(int n, int u, int k) {
      return in(n, 2, 8) && in(u, 1, n - 1) && Math.pow(n, k - 1) <= 2500;
    }

    int many(int n, int u) {
      return told(n, u, s.k) ? s.standing(n, u).size() : -1;
    }

    boolean pick(int n, int u, int number) {
      if (!told(n, u, s.k)) {
        return false;
      }
      List<int[]> standing = s.standing(n, u);
      if (!in(number, 0, standing.size() - 1)) {
        return false;
      }
      change().lay(n, u, standing.get(number));
      return true;
    }

    int rank(int n, int u) {
      if (!told(n, u, s.k)) {
        return -1;
      }
      List<int[]> standing = s.standing(n, u);
      State trial = s.copy();
      for (int r = 0; r < standing.size(); r++) {
        trial.lay(n, u, standing.get(r));
        if (Arrays.equals(trial.sets, s.sets)) {
          return r;
        }
      }
      return -1;
    }

    int unlike(int n, int u) {
      if (!told(n, u, s.k) || !s.isMirrored()) {
        return many(n, u);
      }
      List<String> seen = new ArrayList<>();
      int count = 0;
      for (int[] row : s.standing(n, u)) {
        int[] mirror = new int[s.k];
        for (int i = 0; i < s.k; i++) {
          mirror[i] = Math.floorMod(row[s.twin(i)] - row[s.twin(0)], n);
        }
        if (!seen.contains(Arrays.toString(mirror))) {
          count++;
        }
        seen.add(Arrays.toString(row));
      }
      return count;
    }

    int best(int n, int u) {
      if (!told(n, u, s.k)) {
        return -1;
      }
      List<int[]> standing = s.standing(n, u);
      State trial = s.copy();
      int best = -1;
      long[] top = null;
      for (int r = 0; r < standing.size(); r++) {
        trial.lay(n, u, standing.get(r));
        long[] worst = trial.worst();
        if (worst != null && (top == null || Plane.compare(worst, top) > 0)) {
          top = worst;
          best = r;
        }
      }
      if (best >= 0) {
        change().lay(n, u, standing.get(best));
      }
      return best;
    }

    int without(int gone, int n, int u) {
      if (!in(gone, 0, s.k - 1) || s.k < 3 || s.kind == 2 || !told(n, u, s.k - 1)) {
        return -1;
      }
      State less = new State(s.k - 1, s.kind);
      int j = 0;
      for (int i = 0; i < s.k; i++) {
        if (i != gone) {
          less.xs[j] = s.xs[i];
          less.ys[j++] = s.ys[i];
        }
      }
      less.mx = s.mx;
      less.my = s.my;
      less.v = s.v;
      less.reach = s.reach;
      return less.standing(n, u).size();
    }

    int loads(int y) {
      if (!in(y, -20, 20)) {
        return -1;
      }
      State trial = s.copy();
      trial.my = y;
      int count = 0;
      for (trial.mx = -20; trial.mx <= 20; trial.mx++) {
        count += trial.walks() ? 1 : 0;
      }
      return count;
    }

    boolean isStand(int set) {
      List<long[]> feet = new ArrayList<>();
      for (int i = 0; i < s.k; i++) {
        if ((set >> i & 1) == 1) {
          feet.add(new long[] {s.xs[i], s.ys[i]});
        }
      }
      return (s.kind != 2 || s.pairsHold(set)) && Plane.holds(feet, s.mx, s.my);
    }

    int way(int from, int to, int m) {
      int sets = 1 << s.k;
      if (!in(from, 0, sets - 1) || !in(to, 0, sets - 1) || !in(m, 1, 8) || !isStand(from)) {
        return -1;
      }
      int[] steps = new int[sets];
      Arrays.fill(steps, -1);
      steps[from] = 0;
      ArrayDeque<Integer> open = new ArrayDeque<>(List.of(from));
      while (!open.isEmpty()) {
        int set = open.removeFirst();
        for (int other = 0; other < sets; other++) {
          if (steps[other] < 0 && Integer.bitCount(set ^ other) <= m && isStand(other)) {
            steps[other] = steps[set] + 1;
            open.addLast(other);
          }
        }
      }
      return steps[to];
    }

    boolean undo() {
      if (kept.isEmpty()) {
        return false;
      }
      s = kept.removeLast();
      return true;
    }
  }
}
