import java.util.List;
import java.util.Map;
import java.util.TreeMap;

/**
 * What tests by sentence are told with: scenes, calls that are refused or done, and all that can be seen.
 *
 * <p>No object is used for more than the document's 512 calls: what is looked at at length is made anew.
 */
abstract class EdgeTools {
  static final int LEAST = Integer.MIN_VALUE;
  static final int MOST = Integer.MAX_VALUE;
  // The greatest N of regular rows with N to the K - 1 at most 2500, for K 2 .. 8.
  static final int[] MOST_TICKS = {0, 0, 8, 8, 8, 7, 4, 3, 3};
  static final List<Scene> SCENES = List.of(EdgeTools::fresh, EdgeTools::busy, EdgeTools::full);
  static int wrong = 0;
  static int sentences = 0;
  static String sentence = "";

  /** What is done ahead of the call that is looked at. */
  interface Scene {
    void on(LegBench x);
  }

  /** A call, its answer as a number. */
  interface Call {
    long on(LegBench x);
  }

  static void sentence(String where, String words) {
    sentence = where + ": '" + words + "'";
    sentences++;
  }

  static void end() {
    System.out.println(wrong == 0 ? sentences + " sentences hold" : wrong + " answers break a sentence");
    if (wrong != 0) {
      System.exit(1);
    }
  }

  static void due(String call, long got, long want) {
    if (got != want) {
      wrong++;
      System.out.println(sentence + ": " + call + " answered " + got + ", due is " + want);
    }
  }

  static void same(String what, String got, String want) {
    if (!got.equals(want)) {
      wrong++;
      System.out.println(sentence + ": " + what + " is\n  " + got + ", due is\n  " + want);
    }
  }

  static long bit(boolean answer) {
    return answer ? 1 : 0;
  }

  static void yes(String call, boolean got) {
    due(call, bit(got), 1);
  }

  static void no(String call, boolean got) {
    due(call, bit(got), 0);
  }

  static String told(String name, int... numbers) {
    StringBuilder text = new StringBuilder(name).append('(');
    for (int i = 0; i < numbers.length; i++) {
      text.append(i == 0 ? "" : ", ").append(numbers[i]);
    }
    return text.append(')').toString();
  }

  static void fresh(LegBench x) {}

  // Nothing is as at first.
  static void busy(LegBench x) {
    x.walker(5, 1);
    x.leg(4, 0, 9);
    x.middle(0, 5);
    x.pace(1, 20);
    x.gait(0, 16, 0x1f1f1f1f, 0x1f001f1f, 0x1f1e1f1f, 0x1f1f1f0f);
  }

  // More has been done than is kept.
  static void full(LegBench x) {
    for (int v = 0; v < 6; v++) {
      x.pace(v, 40 - v);
    }
    busy(x);
    x.regular(6, 2, 0x13520);
  }

  static LegBench made(Scene scene) {
    LegBench x = new LegBench();
    scene.on(x);
    return x;
  }

  static LegBench of(int k, int kind) {
    LegBench x = new LegBench();
    yes(told("walker", k, kind), x.walker(k, kind));
    return x;
  }

  // A walker whose first legs are at these places, and down, and no other leg is.
  static LegBench on(int kind, int mx, int my, int[]... feet) {
    int k = Math.max(2, feet.length);
    LegBench x = of(k, kind);
    for (int i = 0; i < k; i++) {
      yes("a place to wait at", x.leg(i, i, -17));
    }
    for (int i = 0; i < feet.length; i++) {
      yes(told("leg", i, feet[i][0], feet[i][1]), x.leg(i, feet[i][0], feet[i][1]));
    }
    yes(told("middle", mx, my), x.middle(mx, my));
    yes("tick", x.tick(0, (1 << feet.length) - 1));
    return x;
  }

  static int[] at(int x, int y) {
    return new int[] {x, y};
  }

  static void lay(LegBench x, int... sets) {
    int[] words = new int[4];
    for (int t = 0; t < sets.length; t++) {
      words[t / 4] |= sets[t] << (8 * (t % 4));
    }
    due("gait", x.gait(0, sets.length, words[0], words[1], words[2], words[3]), sets.length);
  }

  // All that is told of a walker and its gait: by the numbers of about(), and 100 + t for down(t).
  static Map<Integer, Integer> state(LegBench x) {
    Map<Integer, Integer> state = new TreeMap<>();
    for (int what = 0; what < 8; what++) {
      state.put(what, x.about(what));
    }
    for (int i = 0; i < 8; i++) {
      state.put(10 + i, x.about(10 + i));
      state.put(20 + i, x.about(20 + i));
    }
    for (int t = 0; t < 16; t++) {
      state.put(100 + t, x.down(t));
    }
    return state;
  }

  // The state, and all those that undo() brings back.
  static String trace(LegBench x) {
    StringBuilder trace = new StringBuilder(state(x).toString());
    for (int u = 0; u < 9; u++) {
      trace.append("\n  undo ").append(x.undo()).append(' ').append(state(x));
    }
    return trace.toString();
  }

  static void refuses(Scene scene, String call, Call c, long answer) {
    LegBench x = made(scene);
    due(call, c.on(x), answer);
    same("all after " + call, trace(x), trace(made(scene)));
  }

  static void refuses(String call, Call c, long answer) {
    for (Scene scene : SCENES) {
      refuses(scene, call, c, answer);
    }
  }

  // The call makes these changes (a number of state() and what is told by it then) and no other one.
  static void does(Scene scene, String call, Call c, long answer, int... changes) {
    Map<Integer, Integer> due = state(made(scene));
    for (int p = 0; p < changes.length; p += 2) {
      due.put(changes[p], changes[p + 1]);
    }
    LegBench x = made(scene);
    due(call, c.on(x), answer);
    same("all after " + call, state(x).toString(), due.toString());
    yes("undo after " + call, x.undo());
    same("all after undo of " + call, trace(x), trace(made(scene)));
  }

  // Which ticks stand, one sign each.
  static String stood(LegBench x) {
    StringBuilder text = new StringBuilder();
    for (int t = 0; t < x.about(2); t++) {
      text.append(x.stands(t));
    }
    return text.toString();
  }

  // LEG 0 is DOWN at some ticks in a row, over the end of the row, too; LEGS 1 and 2 hold the MIDDLE.
  static LegBench oneStance(int n, int first, int len) {
    LegBench x = new LegBench();
    int[] sets = new int[n];
    for (int t = 0; t < n; t++) {
      sets[t] = 6;
    }
    for (int j = 0; j < len; j++) {
      sets[(first + j) % n] |= 1;
    }
    lay(x, sets);
    return x;
  }

  static void worstIs(LegBench x, long above, long below, long first) {
    due("worst(0)", x.worst(0), above);
    due("worst(1)", x.worst(1), below);
    due("worst(2)", x.worst(2), first);
  }

  // The calls that are about regular rows, by number; each one with the answer that refuses.
  static final String[] ROW_CALLS = {"regular", "many", "pick", "rank", "unlike", "best", "without"};
  static final long[] ROW_REFUSALS = {0, -1, 0, -1, -1, -1, -1};

  static long rowCall(LegBench x, int which, int n, int u) {
    switch (which) {
      case 0:
        return bit(x.regular(n, u, 0));
      case 1:
        return x.many(n, u);
      case 2:
        return bit(x.pick(n, u, 0));
      case 3:
        return x.rank(n, u);
      case 4:
        return x.unlike(n, u);
      case 5:
        return x.best(n, u);
      default:
        return x.without(0, n, u);
    }
  }

  // LEG 0 is at the MIDDLE, LEGS 1 and 2 are on both sides of it, and so are 3 and 4.
  static LegBench groups(int k) {
    LegBench x = of(k, 1);
    int[][] places = {{0, 0}, {-5, 0}, {5, 0}, {0, 5}, {0, -5}};
    for (int i = k - 1; i >= 0; i--) {
      yes("leg", x.leg(i, places[i][0], places[i][1]));
    }
    x.middle(0, 0);
    return x;
  }

  // LEGS 2 and 4 are TWINS, but no pair, so that a MIRROR need not STAND.
  static void crossBound(LegBench x) {
    x.walker(6, 2);
    x.middle(0, 0);
    x.leg(0, -8, 0);
    x.leg(1, 8, 0);
    x.leg(2, -3, 0);
    x.leg(3, 0, 5);
    x.leg(4, 3, 0);
    x.leg(5, 0, -5);
  }
}
