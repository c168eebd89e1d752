import java.util.Arrays;
import java.util.List;

/**
 * Each sentence of the document's promises that names a boundary case, with a test of its own: what is refused,
 * what is answered then, and that nothing is done.
 */
public final class CallEdgeTests extends EdgeTools {
  public static void main(String[] args) {
    makers();
    gaits();
    looks();
    judgements();
    rowCalls();
    undo();
    end();
  }

  // ---- Promises 1 to 5 ----

  private static void makers() {
    sentence("Promise 1", "A WALKER of four LEGS");
    LegBench four = of(4, 0);
    same("all", state(new LegBench()).toString(), state(four).toString());
    due("K", new LegBench().about(0), 4);
    no("undo", new LegBench().undo());
    sentence("Promise 2", "A WALKER of k LEGS of a KIND, all as at first");
    for (int k = 2; k <= 8; k++) {
      for (int kind = 0; kind <= 2; kind++) {
        LegBench x = made(EdgeTools::busy);
        yes(told("walker", k, kind), x.walker(k, kind));
        same("all", state(x).toString(), state(of(k, kind)).toString());
        yes("undo", x.undo());
        same("all that was", trace(x), trace(made(EdgeTools::busy)));
      }
    }
    nothingIsLeft();
    sentence("Promise 2", "false, and nothing is done, if that can't be (both)");
    refuses("walker(1, 3)", x -> bit(x.walker(1, 3)), 0);
    refuses("walker(9, -1)", x -> bit(x.walker(9, -1)), 0);
    legs();
    sentence("Promise 4", "The MIDDLE is at x, y (also where a LEG is)");
    does(EdgeTools::fresh, "middle(3, 4)", x -> bit(x.middle(3, 4)), 1, 5, 3, 6, 4, 7, 0);
    does(EdgeTools::busy, "middle(0, 9)", x -> bit(x.middle(0, 9)), 1, 6, 9);
    does(EdgeTools::busy, "middle(0, 5), where it is", x -> bit(x.middle(0, 5)), 1);
    sentence("Promise 4", "false likewise (both)");
    refuses("middle(21, -21)", x -> bit(x.middle(21, -21)), 0);
    sentence("Promise 5", "SPEED and REACH: true");
    does(EdgeTools::busy, "pace(0, 0)", x -> bit(x.pace(0, 0)), 1, 3, 0, 4, 0);
    does(EdgeTools::busy, "pace(9, 40)", x -> bit(x.pace(9, 40)), 1, 3, 9, 4, 40);
    does(EdgeTools::busy, "pace(1, 20), as they are", x -> bit(x.pace(1, 20)), 1);
    sentence("Promise 5", "false, and nothing is done, if one can't be");
    refuses("pace(10, 41)", x -> bit(x.pace(10, 41)), 0);
    refuses("pace(-1, -1)", x -> bit(x.pace(-1, -1)), 0);
    refuses("pace(9, 41)", x -> bit(x.pace(9, 41)), 0);
    refuses("pace(10, 40)", x -> bit(x.pace(10, 40)), 0);
  }

  // What a walker with more legs, ticks and speed had is not seen later, either, when there is room for it again.
  private static void nothingIsLeft() {
    sentence("Promise 2", "all as at first (in all calls that come later, too)");
    for (int k = 2; k <= 8; k++) {
      for (int kind = 0; kind <= 2; kind++) {
        for (int n = 2; n <= 8; n++) {
          LegBench x = made(CallEdgeTests::grown);
          yes(told("walker", k, kind), x.walker(k, kind));
          same("rows of " + n + ", K " + k + ", KIND " + kind, later(x, n), later(of(k, kind), n));
        }
      }
    }
  }

  private static void grown(LegBench x) {
    x.walker(8, 2);
    for (int i = 0; i < 8; i++) {
      x.leg(i, 20 - i, 20);
    }
    x.middle(16, 20);
    x.pace(9, 40);
    x.gait(0, 16, -1, -1, -1, 0xffffff);
    x.many(3, 1);
    x.unlike(2, 1);
    x.way(255, 15, 8);
    x.worst(0);
  }

  private static String later(LegBench x, int n) {
    StringBuilder text = new StringBuilder();
    for (int u : new int[] {1, n - 1}) {
      text.append(x.regular(n, u, 0x11001010)).append(state(x)).append(x.why()).append(x.worst(0));
      text.append(' ').append(x.many(n, u)).append(' ').append(x.unlike(n, u)).append(' ').append(x.rank(n, u));
      text.append(x.pick(n, u, 1)).append(state(x)).append(x.best(n, u)).append(state(x)).append(x.loads(2));
      text.append(' ').append(x.without(1, n, u)).append(' ').append(x.way(3, 15, 2)).append(' ').append(x.fastest());
    }
    return text.append(x.gait(0, 2 * n, 0, 0, 0, 0)).append(state(x)).toString();
  }

  private static void legs() {
    sentence("Promise 3", "LEG i is at x, y: true");
    for (int i = 0; i < 5; i++) {
      int leg = i;
      int mirrored = i == 4 ? 1 : 0;
      does(EdgeTools::busy, told("leg", i, 0, -7), x -> bit(x.leg(leg, 0, -7)), 1, 10 + i, 0, 20 + i, -7, 7, mirrored);
    }
    sentence("Promise 3", "False, and nothing is done: no such LEG");
    for (int k = 2; k <= 8; k++) {
      int legs = k;
      Scene scene = x -> x.walker(legs, 0);
      for (int i : new int[] {LEAST, -1, k, k + 1, 8, MOST}) {
        refuses(scene, told("leg", i, 9, 9), x -> bit(x.leg(i, 9, 9)), 0);
      }
      yes("the last of " + k, made(scene).leg(k - 1, 9, 9));
    }
    sentence("Promise 3", "False, and nothing is done: another one is there");
    for (int i = 0; i < 8; i++) {
      for (int j = 0; j < 8; j++) {
        int leg = i;
        int x = j % 2 == 0 ? -3 : 3;
        int y = 4 * (j / 2);
        Scene eight = b -> b.walker(8, 0);
        if (i == j) {
          does(eight, "its own place", b -> bit(b.leg(leg, x, y)), 1);
        } else {
          refuses(eight, told("leg", i, x, y), b -> bit(b.leg(leg, x, y)), 0);
        }
      }
    }
    sentence("Promise 3", "another one is there (not one that was, or that is no more)");
    LegBench x = of(8, 0);
    yes("away", x.leg(7, 20, 20));
    yes("where 7 was", x.leg(0, 3, 12));
    no("where 7 is", x.leg(1, 20, 20));
    x.walker(2, 0);
    yes("where LEG 2 was", x.leg(0, -3, 4));
    yes("where LEG 7 was", x.leg(0, 3, 12));
    yes("undo", x.undo());
    yes("where LEG 0 was", x.leg(1, -3, 0));
  }

  // ---- Promises 6 to 8 ----

  private static void gaits() {
    sentence("Promise 6", "a KIND of rows 0 bytes, 1 shorts, 2 ints");
    for (int kind = 0; kind <= 2; kind++) {
      int rows = kind;
      does(EdgeTools::fresh, told("gait", kind, 2, 0x0af5, 0, 0, 0), x -> x.gait(rows, 2, 0x0af5, 0, 0, 0), 2,
          2, 2, 100, 5, 101, 10);
      LegBench x = of(8, 0);
      due("gait", x.gait(kind, 1, 0xff, 0, 0, 0), 1);
      due("a full byte", x.down(0), 255);
      due("gait", x.gait(kind, 1, 0x80, 0, 0, 0), 1);
      due("the highest LEG", x.down(0), 128);
    }
    for (int kind : new int[] {LEAST, -1, 3, 4, MOST}) {
      refuses(told("gait", kind, 2, 5, 0, 0, 0), x -> x.gait(kind, 2, 5, 0, 0, 0), -1);
    }
    sentence("Promise 6", "of four words, one byte a set, the lowest first (a the first four ..)");
    for (int n = 1; n <= 16; n++) {
      LegBench x = of(8, 0);
      due("gait", x.gait(2, n, 0x83828180, 0x87868584, 0x8b8a8988, 0x8f8e8d8c), n);
      for (int t = 0; t <= 16; t++) {
        due("set " + t + " of " + n, x.down(t), t < n ? 128 + t : -1);
      }
    }
    sentence("Promise 6", "LEGS above K left out");
    for (int k = 2; k <= 8; k++) {
      LegBench x = of(k, 0);
      due("gait", x.gait(1, 16, -1, -1, -1, -1), 16);
      for (int t = 0; t < 16; t++) {
        due("set " + t, x.down(t), (1 << k) - 1);
      }
      due("gait", x.gait(1, 1, -(1 << k), 0, 0, 0), 1);
      due("only such LEGS", x.down(0), 0);
    }
    sentence("Promise 6", "n (what is answered), and the row is that of n sets");
    does(EdgeTools::busy, "gait(0, 1, 3, -1, -1, -1)", x -> x.gait(0, 1, 3, -1, -1, -1), 1, shortRow(1, 3));
    sentence("Promise 6", "NONE, and nothing is done: no such KIND, n is not 1 .. 16 (both)");
    refuses("gait(3, 0, 1, 1, 1, 1)", x -> x.gait(3, 0, 1, 1, 1, 1), -1);
    refuses("gait(-1, 17, 1, 1, 1, 1)", x -> x.gait(-1, 17, 1, 1, 1, 1), -1);
    ticks();
    regular();
  }

  // What state() tells of a row of n ticks with one set.
  private static int[] shortRow(int n, int set) {
    int[] changes = new int[34];
    changes[0] = 2;
    changes[1] = n;
    for (int t = 0; t < 16; t++) {
      changes[2 + 2 * t] = 100 + t;
      changes[3 + 2 * t] = t < n ? set : -1;
    }
    return changes;
  }

  private static void ticks() {
    sentence("Promise 7", "The set DOWN at a tick becomes that (the first and the last tick)");
    does(EdgeTools::busy, "tick(0, 0)", x -> bit(x.tick(0, 0)), 1, 100, 0);
    does(EdgeTools::busy, "tick(15, 9)", x -> bit(x.tick(15, 9)), 1, 115, 9);
    does(EdgeTools::busy, "tick(15, 31), as it is", x -> bit(x.tick(15, 31)), 1);
    sentence("Promise 7", "false, and nothing is done, if one can't be (a tick)");
    for (int n = 1; n <= 16; n++) {
      int size = n;
      Scene scene = x -> x.gait(0, size, 0, 0, 0, 0);
      for (int t : new int[] {LEAST, -1, n, n + 1, 16, MOST}) {
        refuses(scene, told("tick", t, 1), x -> bit(x.tick(t, 1)), 0);
      }
      yes("the last of " + n, made(scene).tick(n - 1, 1));
    }
    refuses(CallEdgeTests::shortened, "a tick of a longer row that was", x -> bit(x.tick(3, 1)), 0);
    sentence("Promise 7", "false, and nothing is done, if one can't be (a set)");
    for (int k = 2; k <= 8; k++) {
      int legs = k;
      Scene scene = x -> x.walker(legs, 0);
      for (int set : new int[] {LEAST, -1, 1 << k, (1 << k) + 1, 256, MOST}) {
        refuses(scene, told("tick", 0, set), x -> bit(x.tick(0, set)), 0);
      }
      does(scene, "no LEG", x -> bit(x.tick(0, 0)), 1, 100, 0);
      does(scene, "all LEGS", x -> bit(x.tick(0, (1 << legs) - 1)), 1);
    }
  }

  private static void shortened(LegBench x) {
    x.gait(0, 16, -1, -1, -1, -1);
    x.gait(0, 3, -1, -1, -1, -1);
  }

  private static void regular() {
    sentence("Promise 8", "The GAIT is the REGULAR row of N, u and offsets");
    int[] row = shortRow(2, 0);
    row[3] = 10;
    row[5] = 21;
    does(EdgeTools::busy, "regular(2, 1, 0x101f)", x -> bit(x.regular(2, 1, 0x101f)), 1, row);
    sentence("Promise 8", "(also if N to the K - 1 is above 2500, unlike below): it is laid then, too");
    for (int k = 5; k <= 8; k++) {
      for (int n = MOST_TICKS[k] + 1; n <= 8; n++) {
        LegBench x = of(k, 0);
        yes(told("regular", n, 1, 0) + " of " + k, x.regular(n, 1, 0));
        due("N", x.about(2), n);
        due("all up", x.down(0), 0);
        due("all DOWN", x.down(n - 1), (1 << k) - 1);
        yes("undo", x.undo());
        due("N", x.about(2), 1);
      }
    }
    sentence("Promise 8", "false, and nothing is done (one offset of many)");
    for (int i = 1; i < 4; i++) {
      int packed = 0x1110 + (7 << (4 * i));
      refuses(told("regular", 8, 1, packed), x -> bit(x.regular(8, 1, packed)), 0);
    }
  }

  // ---- Promises 9 to 11 ----

  private static void looks() {
    sentence("Promise 9", "What 0 K .. 7, 10 + i, 20 + i x, y of LEG i, 30 + i its TWIN");
    LegBench told = made(EdgeTools::busy);
    int[] first = {5, 1, 16, 1, 20, 0, 5, 1};
    for (int what = 0; what < 8; what++) {
      due("about(" + what + ")", told.about(what), first[what]);
    }
    int[][] legs = {{-3, 0, 1}, {3, 0, 0}, {-3, 4, 3}, {3, 4, 2}, {0, 9, 4}};
    for (int i = 0; i < 5; i++) {
      for (int part = 0; part < 3; part++) {
        due("about(" + (10 * part + 10 + i) + ")", told.about(10 * part + 10 + i), legs[i][part]);
      }
    }
    sentence("Promise 9", "NONE - 99 if there is none such");
    for (int k = 2; k <= 8; k++) {
      LegBench x = of(k, 0);
      for (int what = -40; what <= 120; what++) {
        boolean isTold = what >= 0 && what < 8 || what >= 10 && what < 40 && what % 10 < k;
        boolean isLone = what == 30 + k - 1 && k % 2 == 1;
        due("about(" + what + ") of " + k, bit(x.about(what) != -100), isTold && !isLone ? 1 : 0);
      }
    }
    for (int what : new int[] {LEAST, LEAST + 10, -30, -20, -10, -1, 8, 9, 18, 28, 38, 40, 256, MOST - 7, MOST}) {
      refuses("about(" + what + ")", x -> x.about(what), -100);
    }
    sentence("Promise 9", "NONE - 99 .. (a LEG without a TWIN, too)");
    LegBench x = made(EdgeTools::busy);
    x.leg(4, 1, 9);
    due("TWIN", x.about(34), -100);
    x.leg(4, 0, 9);
    due("its own", x.about(34), 4);
    downs();
    feet();
  }

  private static void downs() {
    sentence("Promise 10", "The set DOWN at a tick (also the empty and the full one)");
    LegBench x = of(8, 0);
    lay(x, 0, 255, 128, 1);
    int[] due = {0, 255, 128, 1};
    for (int t = 0; t < 4; t++) {
      due("down(" + t + ")", x.down(t), due[t]);
    }
    sentence("Promise 10", "NONE if there is none such");
    for (int n = 1; n <= 16; n++) {
      LegBench y = made(EdgeTools::busy);
      y.gait(0, n, 0, 0, 0, 0);
      due("the last of " + n, y.down(n - 1), 0);
      for (int t : noTicks(n)) {
        due("down(" + t + ") of " + n, y.down(t), -1);
      }
    }
  }

  private static int[] noTicks(int n) {
    return new int[] {LEAST, -n, -1, n, n + 1, 16, 17, MOST};
  }

  private static void feet() {
    sentence("Promise 11", "what 0 twice its x, 1 twice its y");
    LegBench x = made(EdgeTools::busy);
    due("x of the first at the first tick", x.foot(0, 0, 0), -6);
    due("x of the last at the last tick", x.foot(4, 15, 0), 0);
    due("y of the last at the last tick, the third of nine", x.foot(4, 15, 1), 2 * 9 + (9 - 1 - 2 * 2));
    sentence("Promise 11", "NONE - 999 if it is up");
    due("x of the last at tick 12", x.foot(4, 12, 0), -1000);
    due("y of the last at tick 12", x.foot(4, 12, 1), -1000);
    due("x of the first at tick 10", x.foot(0, 10, 0), -1000);
    due("y of the first at tick 10", x.foot(0, 10, 1), -1000);
    due("with none DOWN", x.foot(2, 6, 0), -1000);
    sentence("Promise 11", "NONE - 999 if one can't be");
    for (int i : new int[] {LEAST, -1, 8, 31, 32, MOST}) {
      refuses(told("foot", i, 0, 0), b -> b.foot(i, 0, 0), -1000);
    }
    for (int t : new int[] {LEAST, -1, 16, MOST}) {
      refuses(told("foot", 0, t, 0), b -> b.foot(0, t, 0), -1000);
    }
    for (int what : new int[] {LEAST, -1, 2, MOST}) {
      refuses(told("foot", 0, 0, what), b -> b.foot(0, 0, what), -1000);
    }
    for (int k = 2; k <= 8; k++) {
      LegBench y = of(k, 0);
      due("the last of " + k, y.foot(k - 1, 0, 0), k % 2 == 0 ? 6 : -6);
      due("one more", y.foot(k, 0, 0), -1000);
      due("one more tick", y.foot(0, 1, 0), -1000);
    }
  }

  // ---- Promises 12 to 17, and 24 ----

  private static void judgements() {
    sentence("Promise 12", "Whether it STANDS at a tick: 1, 0; NONE if there is none such");
    for (int n = 1; n <= 16; n++) {
      LegBench x = oneStance(n, 0, n);
      due("at the last of " + n, x.stands(n - 1), 1);
      x.tick(n - 1, 0);
      due("at the last of " + n, x.stands(n - 1), 0);
      for (int t : noTicks(n)) {
        due("stands(" + t + ") of " + n, x.stands(t), -1);
      }
    }
    sentence("Promise 15", "NONE - 9999 if there is .. no such tick");
    for (int n = 1; n <= 16; n++) {
      LegBench x = oneStance(n, 0, n);
      due("at the last of " + n, x.margin(n - 1, 1), 1);
      for (int t : noTicks(n)) {
        due("margin(" + t + ", 0) of " + n, x.margin(t, 0), -10000);
        due("margin(" + t + ", 1) of " + n, x.margin(t, 1), -10000);
      }
    }
    sentence("Promise 13", "Whether the GAIT STANDS");
    yes("at first", new LegBench().walks());
    LegBench far = oneStance(16, 0, 15);
    far.pace(1, 7);
    yes("at each tick, and all within REACH", far.walks());
    far.pace(1, 6);
    no("at each tick, but beyond REACH", far.walks());
    far.pace(0, 0);
    far.tick(15, 0);
    no("not at the last tick", far.walks());
    why();
    marginsAndWorsts();
    fastest();
    loads();
  }

  private static void why() {
    sentence("Promise 14", "The first tick at which it does not STAND");
    LegBench x = new LegBench();
    lay(x, 15, 3, 15, 12, 0);
    due("why", x.why(), 1);
    lay(x, 0, 15);
    due("the first of all", x.why(), 0);
    sentence("Promise 14", "100 + the least LEG one of whose STANCES is beyond REACH");
    for (int i = 0; i < 8; i++) {
      for (int j = 0; j < 8; j++) {
        due("LEGS " + i + " and " + j, tooFar(i, j).why(), 100 + Math.min(i, j));
      }
    }
    sentence("Promise 14", "if it does at all (a tick goes ahead of a LEG)");
    x.pace(1, 0);
    lay(x, 15, 15, 6);
    due("the STANCES of two LEGS", x.why(), 100);
    lay(x, 15, 15, 0);
    due("those of all, and the last tick", x.why(), 2);
    sentence("Promise 14", "NONE if the GAIT STANDS");
    due("at first", new LegBench().why(), -1);
    x.pace(1, 1);
    lay(x, 15, 15, 6);
    due("within REACH", x.why(), -1);
  }

  // Two LEGS, or one, have a STANCE of two ticks; the others are always DOWN and hold the MIDDLE.
  private static LegBench tooFar(int i, int j) {
    LegBench x = of(8, 0);
    lay(x, 255, 255, 255 & ~(1 << i | 1 << j));
    x.pace(1, 0);
    return x;
  }

  private static void marginsAndWorsts() {
    sentence("Promise 15", "NONE - 9999 if there is none .. or another what");
    LegBench x = new LegBench();
    due("margin(0, 0)", x.margin(0, 0), 2);
    due("margin(0, 1)", x.margin(0, 1), 1);
    for (int what : new int[] {LEAST, -1, 2, 3, MOST}) {
      refuses(told("margin", 0, what), b -> b.margin(0, what), -10000);
    }
    sentence("Promise 16", "what likewise; 2: the first tick that has it");
    lay(x, 15, 7, 15, 7, 7);
    worstIs(x, 0, 1, 1);
    lay(x, 7, 15, 7);
    worstIs(x, 0, 1, 0);
    // At x 0 the first SPAN ends at 2 / 4 above the MIDDLE, the second one at 1 / 2.
    LegBench y = on(0, 0, 0, at(-2, -9), at(-1, 0), at(3, 2), at(1, 1), at(1, -9));
    lay(y, 1 + 2 + 4, 1 + 2 + 8 + 16);
    worstIs(y, 1, 2, 0);
    lay(y, 1 + 2 + 8 + 16, 1 + 2 + 4);
    worstIs(y, 1, 2, 0);
    sentence("Promise 16", "NONE - 9999 likewise");
    for (int what : new int[] {LEAST, -1, 3, 4, MOST}) {
      refuses(told("worst", what), b -> b.worst(what), -10000);
    }
  }

  private static void fastest() {
    sentence("Promise 17", "The greatest SPEED 0 .. 9 with which the GAIT would STAND");
    for (int len = 2; len <= 15; len++) {
      for (int reach = 0; reach <= 40; reach++) {
        LegBench x = oneStance(16, 9, len);
        x.pace(len % 10, reach);
        due("len " + len + ", REACH " + reach, x.fastest(), Math.min(9, 2 * reach / (len - 1)));
        due("SPEED stays", x.about(3), len % 10);
      }
    }
    LegBench x = oneStance(16, 0, 16);
    x.pace(0, 0);
    due("always DOWN", x.fastest(), 9);
    sentence("Promise 17", "NONE if with none");
    x.tick(7, 3);
    due("no tick moves", x.fastest(), -1);
    sentence("Promise 17", "with which the GAIT would STAND (one alone)");
    for (int d = 1; d <= 12; d++) {
      // LEG 0 begins a step at the MIDDLE, and LEG 1 ends one there, if SPEED is d.
      LegBench y = on(1, 0, 0, at(0, -d), at(0, d));
      lay(y, 1, 3, 3, 2, 0);
      y.pace(0, 40);
      due("with " + d, y.fastest(), d <= 9 ? d : -1);
    }
  }

  private static void loads() {
    sentence("Promise 24", "whole PLACES at a y (-20 .. 20)");
    for (int y = -20; y <= 20; y++) {
      LegBench x = of(4, 0);
      x.leg(0, -20, -20);
      x.leg(1, 20, -20);
      x.leg(2, 20, 20);
      x.leg(3, -20, 20);
      due("loads(" + y + ") of the greatest", x.loads(y), 41);
      x.leg(2, 20, 19);
      x.leg(3, -20, 19);
      due("loads(" + y + ") of one less", x.loads(y), y == 20 ? 0 : 41);
      x.leg(0, -20, -19);
      x.leg(1, 19, -19);
      due("loads(" + y + ") of two less", x.loads(y), y == 20 || y == -20 ? 0 : y == 19 ? 41 : 40);
    }
    for (int y : new int[] {-20, 20}) {
      LegBench x = on(0, 0, 0, at(-20, y), at(20, y));
      due("a line at the end", x.loads(y), 41);
      due("one off it", x.loads(y < 0 ? y + 1 : y - 1), 0);
      x.leg(0, 20, -y);
      due("one PLACE, the last", x.loads(y), 1);
      x.leg(1, -20, y);
      x.leg(0, -20, -y);
      due("one PLACE, the first", x.loads(y), 1);
    }
    sentence("Promise 24", "NONE for another y");
    for (int y : new int[] {LEAST, -22, -21, 21, 22, MOST}) {
      refuses("loads(" + y + ")", x -> x.loads(y), -1);
    }
    sentence("Promise 24", "so that the GAIT STANDS (none, if a STANCE is beyond REACH)");
    LegBench x = oneStance(4, 0, 2);
    due("SPEED 0", x.loads(2), 1);
    x.pace(1, 1);
    due("within REACH", x.loads(2), 1);
    x.pace(1, 0);
    due("beyond", x.loads(2), 0);
    sentence("Promise 24", "so that the GAIT STANDS (HOP: over empty ticks; none of all N)");
    LegBench y = of(4, 1);
    lay(y, 15, 0, 0);
    due("two empty ticks", y.loads(2), 7);
    lay(y, 15, 0, 0, 0);
    due("three", y.loads(2), 0);
    lay(y, 0);
    due("all", y.loads(2), 0);
  }

  // ---- Promises 18 to 23 ----

  private static void rowCalls() {
    sentence("Promise 18", "How many .. STAND (with SPEED and REACH as they are)");
    long[] within = {1, 1, 1, 0, 1, 0, 0};
    long[] beyond = {1, 0, 0, -1, 0, -1, 0};
    for (int which = 0; which < ROW_CALLS.length; which++) {
      LegBench x = of(4, 1);
      x.regular(4, 1, 0);
      x.pace(2, 2);
      yes(ROW_CALLS[which] + " at REACH", rowCall(x, which, 4, 1) >= within[which]);
      x.pace(2, 1);
      due(ROW_CALLS[which] + " beyond REACH", rowCall(x, which, 4, 1), beyond[which]);
    }
    LegBench fast = of(4, 1);
    fast.regular(2, 1, 0);
    fast.pace(9, 0);
    due("STANCES of one tick have no len beyond REACH", fast.many(2, 1), fast.rank(2, 1) + 2);
    sentence("Promise 18", "0 if none STANDS, NONE as told alone");
    due("many(8, 7)", new LegBench().many(8, 7), 0);
    due("unlike(8, 7)", new LegBench().unlike(8, 7), 0);
    due("without(0, 8, 7)", new LegBench().without(0, 8, 7), 0);
    sentence("Promise 19", "false, and nothing is done, if there is none such");
    refuses("pick(4, 3, 0)", x -> bit(x.pick(4, 3, 0)), 0);
    for (int k : new int[] {LEAST, -1, MOST}) {
      refuses(told("pick", 4, 1, k), x -> bit(x.pick(4, 1, k)), 0);
    }
    refuses("the one after the last", x -> bit(x.pick(4, 1, x.many(4, 1))), 0);
    yes("the last", new LegBench().pick(4, 1, 20));
    no("the one after it", new LegBench().pick(4, 1, 21));
    LegBench last = of(3, 0);
    last.leg(0, 0, 2);
    yes("the very last of all rows, which alone stands", last.pick(2, 1, 0));
    due("its first tick", last.down(0), 6);
    due("its last tick", last.down(1), 1);
    sentence("Promise 19", "The k-th of these becomes the GAIT");
    int[] row = shortRow(4, 0);
    int[] sets = {6, 9, 15, 15};
    for (int t = 0; t < 4; t++) {
      row[3 + 2 * t] = sets[t];
    }
    does(EdgeTools::fresh, "pick(4, 1, 0)", x -> bit(x.pick(4, 1, 0)), 1, row);
    rank();
    unlike();
    best();
    without();
  }

  private static void rank() {
    sentence("Promise 20", "NONE if it is none of them");
    LegBench x = new LegBench();
    lay(x, 14, 13, 11, 7);
    due("rank", x.rank(4, 1), 4);
    due("another u", x.rank(4, 2), -1);
    due("another u", x.rank(4, 3), -1);
    due("another N", x.rank(3, 1), -1);
    due("another N", x.rank(5, 1), -1);
    lay(x, 7, 14, 13, 11);
    due("LEG 0 up at another tick", x.rank(4, 1), -1);
    for (int t = 0; t < 4; t++) {
      lay(x, 14, 13, 11, 7);
      x.tick(t, 15);
      yes("stands", x.walks());
      due("not regular at " + t, x.rank(4, 1), -1);
    }
    lay(x, 6, 9);
    due("rank", x.rank(2, 1), 0);
    lay(x, 6, 9, 6, 9);
    due("twice as long", x.rank(2, 1), -1);
    due("twice as long", x.rank(4, 2), -1);
    lay(x, 14, 13, 11, 7, 15);
    due("rank", x.rank(5, 1) >= 0 ? 1 : 0, 1);
    due("a tick more", x.rank(4, 1), -1);
    sentence("Promise 20", "among these (those that STAND)");
    lay(x, 12, 15, 3, 15);
    due("regular, but falls", x.rank(4, 1), -1);
    x.walker(4, 1);
    lay(x, 0, 15, 15);
    due("the first of HOP", x.rank(3, 1), 0);
    x.walker(4, 0);
    lay(x, 0, 15, 15);
    due("falls as a STILL one", x.rank(3, 1), -1);
  }

  private static void unlike() {
    sentence("Promise 21", "a row and its MIRROR .. counted once");
    LegBench twice = new LegBench();
    due("unlike", twice.unlike(4, 1), 12);
    due("unlike, asked again", twice.unlike(4, 1), 12);
    due("each is its own", groups(3).unlike(6, 5), 1);
    sentence("Promise 21", "if that is one of them");
    due("many", made(EdgeTools::crossBound).many(3, 1), 4);
    due("unlike", made(EdgeTools::crossBound).unlike(3, 1), 4);
    sentence("Promise 21", "(as many() if it is not MIRRORED)");
    LegBench x = of(6, 0);
    yes("fewer, if it is", x.unlike(3, 1) < x.many(3, 1));
    x.leg(0, -4, 0);
    due("not MIRRORED by a LEG", x.about(7), 0);
    due("unlike", x.unlike(3, 1), x.many(3, 1));
    yes("some", x.many(3, 1) > 9);
    LegBench y = of(6, 0);
    y.middle(1, 4);
    due("not MIRRORED by the MIDDLE", y.about(7), 0);
    due("unlike", y.unlike(3, 1), y.many(3, 1));
    yes("some", y.many(3, 1) > 9);
  }

  private static void best() {
    sentence("Promise 22", "NONE, and nothing is done, if there is none");
    refuses("best(4, 3)", x -> x.best(4, 3), -1);
    refuses(x -> x.middle(20, 20), "best(4, 1)", x -> x.best(4, 1), -1);
    refuses(x -> x.pace(9, 0), "best(4, 1)", x -> x.best(4, 1), -1);
    sentence("Promise 22", "The first of those with the greatest WORST");
    // All of groups(3) have the WORST 0.
    LegBench x = groups(3);
    due("best(4, 3)", x.best(4, 3), 0);
    due("rank", x.rank(4, 3), 0);
    sentence("Promise 22", "The first of those (the very last of all rows, if no other one STANDS)");
    LegBench last = of(3, 0);
    last.leg(0, 0, 2);
    due("many(2, 1)", last.many(2, 1), 1);
    due("best(2, 1)", last.best(2, 1), 0);
    due("LEGS 1 and 2", last.down(0), 6);
    due("LEG 0", last.down(1), 1);
    sentence("Promise 22", "becomes the GAIT: its number");
    int[] hop = shortRow(4, 15);
    hop[3] = 0;
    does(b -> b.walker(4, 1), "best(4, 1)", b -> b.best(4, 1), 0, hop);
    LegBench y = of(6, 0);
    int number = y.best(4, 1);
    yes("not the first", number > 0);
    due("rank", y.rank(4, 1), number);
  }

  private static void without() {
    sentence("Promise 23", "K 3 at least");
    due("K 2", of(2, 1).without(0, 4, 1), -1);
    due("K 2", of(2, 1).without(1, 4, 1), -1);
    due("K 3", of(3, 1).without(0, 4, 1), 1);
    sentence("Promise 23", "of BOUND ones NONE");
    for (int k = 2; k <= 8; k++) {
      for (int i = 0; i < k; i++) {
        due("LEG " + i + " of " + k, of(k, 2).without(i, 2, 1), -1);
      }
    }
    sentence("Promise 23", "NONE, too, if it can't be (no such LEG)");
    for (int k = 3; k <= 8; k++) {
      LegBench x = of(k, 1);
      for (int i : new int[] {LEAST, -1, k, k + 1, 8, MOST}) {
        due("LEG " + i + " of " + k, x.without(i, 2, 1), -1);
      }
      for (int i = 0; i < k; i++) {
        yes("LEG " + i + " of " + k, x.without(i, 2, 1) >= 0);
      }
    }
    sentence("Promise 23", "NONE, too, if it can't be (rows of the others: N to the K - 2 above 2500)");
    for (int k = 3; k <= 8; k++) {
      int most = MOST_TICKS[k - 1];
      for (int n = 2; n <= 8; n++) {
        due("N " + n + " of " + k, bit(of(k, 1).without(k - 1, n, 1) >= 0), n <= most ? 1 : 0);
      }
    }
    sentence("Promise 23", "STAND without LEG i (the others, numbered anew)");
    for (int k = 3; k <= 8; k++) {
      for (int i = 0; i < k; i++) {
        others(k, i);
      }
    }
  }

  // A walker of the others alone has as many rows that STAND.
  private static void others(int k, int gone) {
    LegBench x = of(k, 1);
    LegBench y = of(k - 1, 1);
    int[][] places = {{-3, -1}, {4, 0}, {1, 5}, {-2, 6}, {5, 7}, {-4, 9}, {0, 11}, {2, -2}};
    for (int i = 0; i < k; i++) {
      yes("leg", x.leg(i, places[i][0], places[i][1]));
      if (i != gone) {
        yes("leg", y.leg(i < gone ? i : i - 1, places[i][0], places[i][1]));
      }
    }
    for (LegBench b : new LegBench[] {x, y}) {
      b.middle(1, 3);
      b.pace(1, 1);
    }
    for (int u = 1; u <= 2; u++) {
      due("LEG " + gone + " of " + k + ", u " + u, x.without(gone, 3, u), y.many(3, u));
    }
    due("K is as it was", x.about(0), k);
  }

  // ---- Promise 26 ----

  private static void undo() {
    sentence("Promise 26", "false if there is none");
    refuses(EdgeTools::fresh, "undo()", x -> bit(x.undo()), 0);
    refuses(CallEdgeTests::takenBack, "undo()", x -> bit(x.undo()), 0);
    sentence("Promise 26", "(the latest 8 are kept)");
    for (int calls = 0; calls <= 20; calls++) {
      LegBench x = new LegBench();
      for (int c = 1; c <= calls; c++) {
        yes("pace", x.pace(c % 10, c));
      }
      for (int c = calls - 1; c >= Math.max(0, calls - 8); c--) {
        yes("undo of call " + (c + 1) + " of " + calls, x.undo());
        due("REACH", x.about(4), c == 0 ? 10 : c);
        due("SPEED", x.about(3), c % 10);
      }
      no("one more, of " + calls, x.undo());
      due("REACH", x.about(4), calls == 0 || calls <= 8 ? 10 : calls - 8);
    }
    eachCallIsTakenBack();
    notTakenBack();
    wasDone();
  }

  private static void takenBack(LegBench x) {
    x.pace(3, 3);
    x.undo();
  }

  private static void eachCallIsTakenBack() {
    sentence("Promise 26", "walker(), leg(), middle(), pace(), gait(), tick(), regular(), pick(), best()");
    List<Call> calls = List.of(x -> bit(x.walker(7, 0)), x -> bit(x.leg(3, 9, 9)), x -> bit(x.middle(1, 5)),
        x -> bit(x.pace(0, 7)), x -> x.gait(0, 2, 0x0505, 0, 0, 0), x -> bit(x.tick(0, 3)),
        x -> bit(x.regular(5, 2, 0x43210)), x -> bit(x.pick(3, 1, 0)), x -> x.best(2, 1));
    long[] done = {1, 1, 1, 1, 2, 1, 1, 1, 0};
    for (int c = 0; c < calls.size(); c++) {
      LegBench x = made(EdgeTools::busy);
      yes("call " + c + " is done", calls.get(c).on(x) >= done[c]);
      no("call " + c + " changes nothing", state(x).equals(state(made(EdgeTools::busy))));
      yes("undo of call " + c, x.undo());
      same("all after it", trace(x), trace(made(EdgeTools::busy)));
    }
    sentence("Promise 26", "as ahead of the latest call (each of many)");
    LegBench x = new LegBench();
    for (int c = 0; c < calls.size(); c++) {
      yes("call " + c + " is done", calls.get(c).on(x) >= done[c]);
    }
    for (int c = calls.size() - 1; c >= 1; c--) {
      LegBench y = new LegBench();
      for (Call call : calls.subList(0, c)) {
        call.on(y);
      }
      yes("undo", x.undo());
      same("all ahead of call " + c, state(x).toString(), state(y).toString());
    }
    no("the ninth", x.undo());
  }

  private static void notTakenBack() {
    sentence("Promise 26", "that was done and not taken back");
    LegBench x = new LegBench();
    for (int c = 1; c <= 10; c++) {
      x.pace(0, c);
    }
    for (int u = 0; u < 3; u++) {
      yes("undo", x.undo());
    }
    due("REACH", x.about(4), 7);
    x.pace(0, 30);
    x.pace(0, 31);
    int[] due = {30, 7, 6, 5, 4, 3, 2};
    for (int reach : due) {
      yes("undo", x.undo());
      due("REACH", x.about(4), reach);
    }
    no("the calls ahead of the latest 8 are not kept", x.undo());
    due("REACH", x.about(4), 2);
    for (int c = 1; c <= 9; c++) {
      x.pace(1, c);
    }
    for (int c = 8; c >= 1; c--) {
      yes("undo", x.undo());
      due("REACH", x.about(4), c);
    }
    no("full again, and no more", x.undo());
  }

  private static void wasDone() {
    sentence("Promise 26", "that was done (a refused call is not)");
    Scene refused = x -> {
      x.pace(5, 5);
      x.walker(1, 0);
      x.leg(0, 3, 0);
      x.middle(0, 21);
      x.pace(10, 0);
      x.gait(0, 17, 0, 0, 0, 0);
      x.tick(1, 0);
      x.regular(1, 1, 0);
      x.pick(8, 7, 0);
      x.best(8, 7);
    };
    same("all", trace(made(refused)), trace(made(x -> x.pace(5, 5))));
    sentence("Promise 26", "the latest call of walker() .. best() (no other one)");
    Scene asks = x -> {
      for (int round = 0; round < 3; round++) {
        askAll(x);
      }
    };
    for (Scene scene : SCENES) {
      Scene asked = x -> {
        scene.on(x);
        asks.on(x);
      };
      same("all", trace(made(asked)), trace(made(scene)));
    }
    sentence("Promises 9 to 25", "What a question answers does not hang on what was asked before");
    for (Scene scene : SCENES) {
      LegBench x = made(scene);
      for (int round = 0; round < 3; round++) {
        same("round " + round, answers(x), answers(made(scene)));
      }
    }
  }

  private static String answers(LegBench x) {
    StringBuilder text = new StringBuilder();
    for (int n = 4; n >= 2; n--) {
      for (int u = 1; u < n; u++) {
        text.append(x.many(n, u)).append(' ').append(x.unlike(n, u)).append(' ');
        text.append(x.without(0, n, u)).append(' ').append(x.rank(n, u)).append(' ');
      }
      text.append(x.stands(n)).append(' ').append(x.foot(0, n, 1)).append(' ').append(x.margin(n, 0)).append(' ');
      text.append(x.why()).append(' ').append(x.worst(0)).append(' ').append(x.way(15, 7, n)).append(' ');
      text.append(x.loads(n)).append(' ').append(x.fastest()).append(' ').append(x.walks()).append(' ');
    }
    return text.toString();
  }

  private static void askAll(LegBench x) {
    x.about(0);
    x.down(0);
    x.foot(0, 0, 1);
    x.stands(0);
    x.walks();
    x.why();
    x.margin(0, 0);
    x.worst(2);
    x.fastest();
    x.many(3, 1);
    x.rank(3, 1);
    x.unlike(3, 1);
    x.without(0, 3, 1);
    x.loads(3);
    x.way(15, 7, 1);
  }
}
