import java.util.ArrayList;
import java.util.Arrays;
import java.util.List;

/**
 * Each sentence of the document's terms that names a boundary case, with a test of its own: the last value that
 * is allowed, the first one that is not, at each end; and after a refused call, that nothing is done.
 */
public final class TermEdgeTests extends EdgeTools {
  /** What is looked at in the rows of a scene's walker. */
  private interface RowTest {
    void on(Scene scene, int n, int u);
  }

  public static void main(String[] args) {
    use();
    term1();
    term2Ticks();
    term2Span();
    term2Kinds();
    term2Reach();
    term2Margin();
    term3();
    term4();
    end();
  }

  // ---- How long an object is used ----

  private static void use() {
    sentence("What it is", "An object is used for at most 512 calls");
    LegBench x = new LegBench();
    for (int c = 1; c <= 503; c++) {
      yes("call " + c, x.pace(c % 10, c % 41));
    }
    due("call 504", x.about(4), 503 % 41);
    for (int u = 1; u <= 8; u++) {
      yes("call " + (504 + u), x.undo());
    }
    LegBench y = new LegBench();
    for (int c = 1; c <= 511; c++) {
      due("call " + c, y.best(2, 1), 0);
    }
    due("call 512", y.rank(2, 1), 0);
  }

  // ---- Term 1 ----

  private static void term1() {
    legsAndKinds();
    places();
    firstPlaces();
    twins();
    mirrored();
  }

  private static void legsAndKinds() {
    sentence("Term 1", "K LEGS (2 .. 8)");
    for (int k : new int[] {2, 8}) {
      LegBench x = new LegBench();
      yes(told("walker", k, 0), x.walker(k, 0));
      due("K", x.about(0), k);
    }
    for (int k : new int[] {LEAST, -2, -1, 0, 1, 9, 10, 16, MOST}) {
      refuses(told("walker", k, 0), x -> bit(x.walker(k, 0)), 0);
    }
    sentence("Term 1", "KINDS: 0 STILL, 1 HOP, 2 BOUND");
    for (int kind = 0; kind <= 2; kind++) {
      LegBench x = new LegBench();
      yes(told("walker", 4, kind), x.walker(4, kind));
      due("KIND", x.about(1), kind);
    }
    for (int kind : new int[] {LEAST, -1, 3, 4, MOST}) {
      refuses(told("walker", 4, kind), x -> bit(x.walker(4, kind)), 0);
    }
    sentence("Term 1", "SPEED v 0 .. 9");
    does(EdgeTools::busy, "pace(0, 20)", x -> bit(x.pace(0, 20)), 1, 3, 0);
    does(EdgeTools::busy, "pace(9, 20)", x -> bit(x.pace(9, 20)), 1, 3, 9);
    for (int v : new int[] {LEAST, -1, 10, 11, MOST}) {
      refuses(told("pace", v, 7), x -> bit(x.pace(v, 7)), 0);
    }
    sentence("Term 1", "REACH r 0 .. 40");
    does(EdgeTools::busy, "pace(1, 0)", x -> bit(x.pace(1, 0)), 1, 4, 0);
    does(EdgeTools::busy, "pace(1, 40)", x -> bit(x.pace(1, 40)), 1, 4, 40);
    for (int reach : new int[] {LEAST, -1, 41, 42, MOST}) {
      refuses(told("pace", 7, reach), x -> bit(x.pace(7, reach)), 0);
    }
  }

  private static void places() {
    sentence("Term 1", "PLACES x, y (-20 .. 20 each)");
    int[] ends = {-20, 20};
    int[] beyond = {LEAST, -22, -21, 21, 22, MOST};
    for (int x : ends) {
      for (int y : ends) {
        does(EdgeTools::busy, told("leg", 4, x, y), b -> bit(b.leg(4, x, y)), 1, 14, x, 24, y, 7, 0);
        does(EdgeTools::busy, told("middle", x, y), b -> bit(b.middle(x, y)), 1, 5, x, 6, y, 7, 0);
      }
      for (int y : beyond) {
        refuses(told("leg", 1, x, y), b -> bit(b.leg(1, x, y)), 0);
        refuses(told("leg", 1, y, x), b -> bit(b.leg(1, y, x)), 0);
        refuses(told("middle", x, y), b -> bit(b.middle(x, y)), 0);
        refuses(told("middle", y, x), b -> bit(b.middle(y, x)), 0);
      }
    }
  }

  private static void firstPlaces() {
    sentence("Term 1", "at first LEG i is at x -3 (i even), 3 (odd), y 4 * (i / 2), divided downwards");
    int[] xs = {-3, 3, -3, 3, -3, 3, -3, 3};
    int[] ys = {0, 0, 4, 4, 8, 8, 12, 12};
    for (int k = 2; k <= 8; k++) {
      LegBench x = of(k, 0);
      for (int i = 0; i < 8; i++) {
        due("x of LEG " + i + " of " + k, x.about(10 + i), i < k ? xs[i] : -100);
        due("y of LEG " + i + " of " + k, x.about(20 + i), i < k ? ys[i] : -100);
      }
    }
    sentence("Term 1", "Its MIDDLE is .. at first 0, 2 * ((K + 1) / 2 - 1) (divided downwards)");
    int[] middles = {0, 0, 0, 2, 2, 4, 4, 6, 6};
    for (int k = 2; k <= 8; k++) {
      LegBench x = of(k, 0);
      due("x of " + k, x.about(5), 0);
      due("y of " + k, x.about(6), middles[k]);
    }
    sentence("Term 1", "SPEED (at first 0), REACH (at first 10), KINDS (at first STILL)");
    LegBench x = new LegBench();
    due("KIND", x.about(1), 0);
    due("SPEED", x.about(3), 0);
    due("REACH", x.about(4), 10);
  }

  private static void twins() {
    sentence("Term 1", "The TWIN of a LEG is that at -x, y");
    LegBench x = on(0, 0, 0, at(-20, 20), at(20, 20), at(-1, -20), at(1, -20), at(5, 0), at(-5, 1), at(6, 2), at(-7, 2));
    int[] due = {1, 0, 3, 2, -100, -100, -100, -100};
    for (int i = 0; i < 8; i++) {
      due("TWIN of " + i, x.about(30 + i), due[i]);
    }
    sentence("Term 1", "(a LEG at x 0 is its own)");
    LegBench y = on(0, 1, 0, at(0, 3), at(0, -3), at(0, 0));
    for (int i = 0; i < 3; i++) {
      due("TWIN of " + i, y.about(30 + i), i);
    }
    sentence("Term 1", "The TWIN of a LEG is a LEG that there is");
    LegBench z = of(8, 0);
    z.walker(3, 0);
    due("TWIN of the last of 3, after there were 8", z.about(32), -100);
    z.walker(2, 0);
    z.leg(0, 3, 4);
    due("where LEG 2 was", z.about(30), -100);
  }

  private static void mirrored() {
    sentence("Term 1", "It is MIRRORED if each LEG has one");
    for (int k = 2; k <= 8; k++) {
      due("at first, K " + k, of(k, 0).about(7), k % 2 == 0 ? 1 : 0);
    }
    for (int i = 0; i < 4; i++) {
      LegBench x = new LegBench();
      x.leg(i, 7, 7);
      due("LEG " + i + " and its TWIN have none", x.about(7), 0);
      x.leg(i, 0, 7);
      due("LEG " + i + "'s TWIN has none", x.about(7), 0);
      x.leg(i ^ 1, 0, 6);
      due("both are their own", x.about(7), 1);
    }
    sentence("Term 1", "and the MIDDLE has x 0");
    int[][] middles = {{-20, 0}, {-1, 0}, {0, 1}, {1, 0}, {20, 0}};
    for (int[] m : middles) {
      LegBench x = new LegBench();
      x.middle(m[0], 9);
      due("MIDDLE at x " + m[0], x.about(7), m[1]);
    }
    LegBench x = new LegBench();
    for (int y : new int[] {-20, 20}) {
      x.middle(0, y);
      due("MIDDLE at y " + y, x.about(7), 1);
    }
  }

  // ---- Term 2 ----

  private static void term2Ticks() {
    sentence("Term 2", "N ticks (1 .. 16)");
    for (int n : new int[] {1, 16}) {
      LegBench x = made(EdgeTools::busy);
      due("gait", x.gait(0, n, 0, 0, 0, 0), n);
      due("N", x.about(2), n);
      due("the last tick", x.down(n - 1), 0);
      due("one more", x.down(n), -1);
    }
    for (int n : new int[] {LEAST, -1, 0, 17, 18, 32, MOST}) {
      refuses(told("gait", 0, n, 1, 1, 1, 1), x -> x.gait(0, n, 1, 1, 1, 1), -1);
    }
    sentence("Term 2", "a number: LEG i counts 2 to the i");
    for (int i = 0; i < 8; i++) {
      LegBench x = of(8, 0);
      x.tick(0, 1 << i);
      for (int other = 0; other < 8; other++) {
        due("x of " + other + " with " + i + " DOWN", x.foot(other, 0, 0), other != i ? -1000 : i % 2 == 0 ? -6 : 6);
      }
    }
    sentence("Term 2", "At first N is 1 and all are DOWN");
    for (int k = 2; k <= 8; k++) {
      LegBench x = of(k, 0);
      due("N", x.about(2), 1);
      due("all of " + k, x.down(0), (1 << k) - 1);
    }
    stances();
    severalStances();
    alwaysDown();
    farFeet();
  }

  private static void stances() {
    sentence("Term 2", "A STANCE of a LEG: all ticks in a row at which it is DOWN, round and round");
    for (int n = 2; n <= 16; n++) {
      for (int len = 1; len < n; len++) {
        for (int first = 0; first < n; first++) {
          LegBench x = oneStance(n, first, len);
          x.pace(3, 0);
          for (int j = 0; j < n; j++) {
            int due = j < len ? 3 * (len - 1 - 2 * j) : -1000;
            due("tick " + j + " of " + len + " from " + first + " on, of " + n, x.foot(0, (first + j) % n, 1), due);
          }
        }
      }
    }
  }

  private static void severalStances() {
    sentence("Term 2", "as many as there are (each STANCE has its own len)");
    LegBench x = of(2, 0);
    lay(x, 1, 0, 1, 1, 0, 1, 1, 1, 0, 1);
    x.pace(1, 0);
    int[] due = {-1, -1000, 1, -1, -1000, 2, 0, -2, -1000, 1};
    for (int t = 0; t < 10; t++) {
      due("twice y at " + t, x.foot(0, t, 1), due[t]);
    }
    sentence("Term 2", "a STANCE of the row that there is now, not of one that was");
    lay(x, 1, 1, 0, 1);
    due("over the new end", x.foot(0, 3, 1), 2);
    x.tick(3, 0);
    due("not over it any more", x.foot(0, 0, 1), 1);
    x.tick(2, 1);
    due("longer", x.foot(0, 0, 1), 2);
    x.tick(3, 1);
    for (int t = 0; t < 4; t++) {
      due("always DOWN now, at " + t, x.foot(0, t, 1), 0);
    }
    sentence("Term 2", "A STANCE of a LEG (of each one, at each tick)");
    for (int i = 0; i < 8; i++) {
      LegBench y = of(8, 0);
      y.pace(1, 0);
      for (int up = 0; up < 16; up++) {
        upAtOne(y, i, up);
      }
    }
  }

  // LEG i is up at one tick of 16, and no other one is DOWN.
  private static void upAtOne(LegBench x, int i, int up) {
    int[] sets = new int[16];
    Arrays.fill(sets, 1 << i);
    sets[up] = 0;
    lay(x, sets);
    for (int j : new int[] {0, 6, 14}) {
      due("LEG " + i + " up at " + up + ", tick " + j, x.foot(i, (up + 1 + j) % 16, 1), 8 * (i / 2) + 14 - 2 * j);
    }
    due("LEG " + i + " up", x.foot(i, up, 1), -1000);
  }

  private static void alwaysDown() {
    sentence("Term 2", "of one that is always DOWN each tick is a STANCE of its own");
    for (int n = 1; n <= 16; n++) {
      LegBench x = oneStance(n, 0, n);
      x.pace(9, 0);
      for (int t = 0; t < n; t++) {
        due("twice y at " + t + " of " + n, x.foot(0, t, 1), 0);
      }
      yes("REACH 0 is enough for " + n, x.walks());
      if (n > 1) {
        x.tick(n - 1, 6);
        due("up at one tick of " + n, x.foot(0, 0, 1), 9 * (n - 2));
      }
    }
  }

  private static void farFeet() {
    sentence("Term 2", "a foot is at x, y + v (len - 1 - 2 j) / 2, seen from the body (also beyond all PLACES)");
    for (int y : new int[] {-20, 20}) {
      LegBench x = oneStance(16, 0, 15);
      x.leg(0, 20, y);
      x.pace(9, 40);
      due("the first", x.foot(0, 0, 1), 2 * y + 126);
      due("the middle one", x.foot(0, 7, 1), 2 * y);
      due("the last", x.foot(0, 14, 1), 2 * y - 126);
      due("x", x.foot(0, 14, 0), 40);
    }
    sentence("Term 2", "the MIDDLE is seen from the body, too: it does not move");
    LegBench x = oneStance(3, 0, 2);
    x.middle(0, 1);
    x.pace(9, 40);
    due("MIDDLE's y", x.about(6), 1);
  }

  private static void holds(int mx, int my, int... feet) {
    due("stands with the MIDDLE at " + mx + ", " + my, onFeet(mx, my, feet).stands(0), 1);
  }

  private static void fails(int mx, int my, int... feet) {
    due("stands with the MIDDLE at " + mx + ", " + my, onFeet(mx, my, feet).stands(0), 0);
  }

  private static LegBench onFeet(int mx, int my, int... feet) {
    int[][] places = new int[feet.length / 2][];
    for (int i = 0; i < places.length; i++) {
      places[i] = at(feet[2 * i], feet[2 * i + 1]);
    }
    return on(0, mx, my, places);
  }

  private static void term2Span() {
    point();
    lines();
    figures();
    movedFeet();
  }

  private static void point() {
    sentence("Term 2", "the feet DOWN SPAN .. a point, if they are so");
    holds(4, 5, 4, 5);
    fails(3, 5, 4, 5);
    fails(5, 5, 4, 5);
    fails(4, 4, 4, 5);
    fails(4, 6, 4, 5);
    sentence("Term 2", "with no foot DOWN a STILL one does not STAND");
    fails(4, 5);
    fails(0, 0);
  }

  private static void lines() {
    sentence("Term 2", "SPAN .. a line, if they are so");
    int[] flat = {-2, 3, 5, 3};
    for (int x = -2; x <= 5; x++) {
      holds(x, 3, flat);
      fails(x, 2, flat);
      fails(x, 4, flat);
    }
    fails(-3, 3, flat);
    fails(6, 3, flat);
    int[] upright = {4, -1, 4, 6, 4, 2};
    for (int y = -1; y <= 6; y++) {
      holds(4, y, upright);
      fails(3, y, upright);
      fails(5, y, upright);
    }
    fails(4, -2, upright);
    fails(4, 7, upright);
    int[] slanted = {-4, -2, 4, 2, 2, 1};
    int[][] on = {{-4, -2}, {-2, -1}, {0, 0}, {2, 1}, {4, 2}};
    for (int[] p : on) {
      holds(p[0], p[1], slanted);
      fails(p[0], p[1] + 1, slanted);
      fails(p[0], p[1] - 1, slanted);
      fails(p[0] + 1, p[1], slanted);
      fails(p[0] - 1, p[1], slanted);
    }
    fails(-6, -3, slanted);
    fails(6, 3, slanted);
  }

  private static void figures() {
    sentence("Term 2", "if the MIDDLE is in it or on its border");
    int[] triangle = {0, 0, 6, 0, 0, 6};
    int[][] in = {{1, 1}, {2, 2}, {4, 1}, {0, 0}, {6, 0}, {0, 6}, {3, 0}, {0, 3}, {3, 3}, {1, 5}, {5, 1}};
    for (int[] p : in) {
      holds(p[0], p[1], triangle);
    }
    int[][] out = {{-1, 0}, {0, -1}, {7, 0}, {6, -1}, {6, 1}, {0, 7}, {-1, 6}, {1, 6}, {4, 3}, {3, 4}, {-1, 3}, {3, -1}};
    for (int[] p : out) {
      fails(p[0], p[1], triangle);
    }
    sentence("Term 2", "the least bulging figure that has them (a foot inside makes no dent)");
    int[] dented = {-6, 0, 6, 0, 0, 1, -6, 6, 6, 6};
    holds(0, 0, dented);
    holds(1, 0, dented);
    holds(0, 6, dented);
    fails(0, -1, dented);
    fails(0, 7, dented);
    fails(7, 3, dented);
    sentence("Term 2", "in it or on its border (the thinnest one, between the farthest PLACES)");
    int[] thin = {-20, -20, 20, 20, 19, 20};
    holds(0, 0, thin);
    holds(-20, -20, thin);
    holds(19, 20, thin);
    holds(20, 20, thin);
    fails(0, 1, thin);
    fails(0, -1, thin);
    fails(-19, -20, thin);
    fails(18, 20, thin);
    int[] all = {-20, -20, 20, -20, 20, 20, -20, 20};
    holds(-20, 0, all);
    holds(20, 20, all);
    holds(0, -20, all);
  }

  private static void movedFeet() {
    sentence("Term 2", "At a tick the feet DOWN SPAN (where they are then, not their PLACES)");
    LegBench x = on(1, 4, 5, at(4, 5));
    lay(x, 1, 1, 1, 0);
    x.pace(1, 40);
    same("which stand", stood(x), "0101");
    lay(x, 1, 1, 0);
    same("a half of a PLACE off", stood(x), "001");
    LegBench y = on(0, 0, 1, at(-3, 0), at(3, 0), at(0, 20));
    lay(y, 3, 3, 3, 4);
    y.pace(1, 40);
    same("the line comes to the MIDDLE at the first tick", stood(y), "1000");
    y.middle(0, -1);
    same("and at the last one", stood(y), "0010");
    sentence("Term 2", "in it or on its border (a quarter of a PLACE off is not)");
    LegBench z = on(0, 0, 0, at(-1, 0), at(1, 0), at(0, 20));
    lay(z, 3, 3, 2);
    same("without SPEED", stood(z), "110");
    z.pace(1, 1);
    same("the left one is a half above, then below", stood(z), "000");
    lay(z, 3, 3, 1);
    same("the right one is", stood(z), "000");
    due("margin above", z.margin(0, 0), -1);
    due("margin below", z.margin(0, 1), 4);
  }

  // A row of signs: '.' is a tick with no foot DOWN, another one with all of four.
  private static void rowStands(int kind, String row, String due) {
    LegBench x = of(4, kind);
    int[] sets = new int[row.length()];
    for (int t = 0; t < sets.length; t++) {
      sets[t] = row.charAt(t) == '.' ? 0 : 15;
    }
    lay(x, sets);
    same("KIND " + kind + ", row " + row, stood(x), due);
    due("walks", bit(x.walks()), due.indexOf('0') < 0 ? 1 : 0);
    due("why", x.why(), due.indexOf('0'));
  }

  private static void term2Kinds() {
    sentence("Term 2", "HOP: also if none is DOWN (no other KIND)");
    rowStands(1, "D.", "11");
    rowStands(0, "D.", "10");
    rowStands(2, "D.", "10");
    rowStands(0, ".", "0");
    rowStands(2, ".", "0");
    sentence("Term 2", "HOP: at most two ticks in a row are so");
    rowStands(1, "D..D", "1111");
    rowStands(1, "D...D", "10001");
    rowStands(1, "D....D", "100001");
    rowStands(1, "D.D..D", "111111");
    rowStands(1, "D.D...D", "1110001");
    sentence("Term 2", "in a row (round and round)");
    rowStands(1, ".D.", "111");
    rowStands(1, "..D", "111");
    rowStands(1, "D..", "111");
    rowStands(1, "..D.", "0010");
    rowStands(1, ".D..", "0100");
    rowStands(1, "...D", "0001");
    rowStands(1, "D...", "1000");
    rowStands(1, ".DDDDDDDDDDDDDD.", "1111111111111111");
    rowStands(1, "..DDDDDDDDDDDDD.", "0011111111111110");
    rowStands(1, ".DDDDDDDDDDDDD..", "0111111111111100");
    rowStands(1, "..D..D..D..D..DD", "1111111111111111");
    rowStands(1, "...............D", "0000000000000001");
    sentence("Term 2", "HOP: and not all N");
    rowStands(1, ".", "0");
    rowStands(1, "..", "00");
    rowStands(1, "...", "000");
    rowStands(1, "................", "0000000000000000");
    sentence("Term 2", "HOP: with a foot DOWN, as STILL");
    LegBench x = of(4, 1);
    lay(x, 3, 15, 1);
    same("which stand", stood(x), "010");
    boundPairs();
    boundOdd();
  }

  private static void boundPairs() {
    sentence("Term 2", "BOUND: only if of LEGS 2 i, 2 i + 1 both or none are DOWN");
    for (int k = 4; k <= 8; k++) {
      for (int pair = 0; 2 * pair + 1 < k; pair++) {
        LegBench x = of(k, 2);
        int held = pair == 0 ? 1 : 0;
        x.middle(0, 4 * held);
        int base = 3 << (2 * held);
        int one = 1 << (2 * pair);
        lay(x, base, base | one, base | 2 * one, base | 3 * one);
        same("pair " + pair + " of " + k + " LEGS", stood(x), "1001");
      }
    }
    LegBench x = of(2, 2);
    x.middle(-3, 0);
    lay(x, 1, 3);
    same("half of the only pair", stood(x), "01");
    sentence("Term 2", "BOUND: LEGS 2 i + 1, 2 i + 2 are no pair");
    LegBench y = of(4, 2);
    lay(y, 6, 9, 15);
    same("over cross", stood(y), "001");
    y.walker(4, 0);
    lay(y, 6, 9, 15);
    same("a STILL one", stood(y), "111");
  }

  private static void boundOdd() {
    sentence("Term 2", "BOUND: both or none (the last of an odd number has no second one: it is free)");
    for (int k = 3; k <= 7; k += 2) {
      LegBench x = of(k, 2);
      x.middle(0, 0);
      int last = 1 << (k - 1);
      lay(x, 3, 3 | last);
      same("K " + k, stood(x), "11");
      x.middle(-3, 4 * (k / 2));
      lay(x, last, last | 3, last | 1, last | 2);
      same("on the last of " + k, stood(x), "1100");
    }
  }

  private static void term2Reach() {
    sentence("Term 2", "The GAIT STANDS if it does at each tick");
    for (int t = 0; t < 16; t++) {
      LegBench x = oneStance(16, 0, 16);
      yes("walks", x.walks());
      x.tick(t, 3);
      no("all but tick " + t, x.walks());
      due("why", x.why(), t);
    }
    sentence("Term 2", "(v (len - 1)) / 2 is at most REACH");
    for (int v = 0; v <= 9; v++) {
      for (int len = 1; len <= 15; len++) {
        leastReach(v, len);
      }
    }
    sentence("Term 2", "(v (len - 1)) / 2 is at most REACH (halves count)");
    LegBench x = oneStance(16, 3, 10);
    x.pace(9, 40);
    no("81 / 2 is above 40", x.walks());
    x.pace(8, 36);
    yes("72 / 2 is 36", x.walks());
    x.pace(8, 35);
    no("72 / 2 is above 35", x.walks());
    x.pace(1, 4);
    no("9 / 2 is above 4", x.walks());
    x.pace(1, 5);
    yes("9 / 2 is below 5", x.walks());
    sentence("Term 2", "for each STANCE");
    LegBench y = new LegBench();
    lay(y, 7, 6, 7, 7, 7, 6, 7, 7, 6);
    y.pace(2, 2);
    yes("the longest has 3 ticks", y.walks());
    y.pace(2, 1);
    no("2 ticks are not too long, 3 are", y.walks());
    lay(y, 7, 6, 7, 7, 6);
    yes("the longest has 2 ticks", y.walks());
    lay(y, 7, 7, 6, 7);
    no("3 ticks over the end", y.walks());
    lay(y, 15, 15, 15, 7);
    no("LEG 3 alone", y.walks());
    sentence("Term 2", "for each STANCE (of a LEG that there is, not of one that was)");
    LegBench z = of(8, 0);
    lay(z, 255, 255, 255 - 16);
    z.pace(9, 0);
    due("LEG 4 of eight", z.why(), 104);
    z.walker(4, 0);
    z.pace(9, 0);
    due("there are four", z.why(), -1);
    yes("there are four", z.walks());
  }

  private static void leastReach(int v, int len) {
    int least = (v * (len - 1) + 1) / 2;
    for (int reach = Math.max(0, Math.min(40, least - 2)); reach <= Math.min(40, least + 1); reach++) {
      LegBench x = oneStance(16, 5, len);
      x.pace(v, reach);
      due("walks, SPEED " + v + ", len " + len + ", REACH " + reach, bit(x.walks()), reach < least ? 0 : 1);
      due("why", x.why(), reach < least ? 100 : -1);
    }
  }

  private static void marginIs(long above, long below, int mx, int my, int... feet) {
    LegBench x = onFeet(mx, my, feet);
    due("margin above with the MIDDLE at " + mx + ", " + my, x.margin(0, 0), above);
    due("margin below with the MIDDLE at " + mx + ", " + my, x.margin(0, 1), below);
  }

  private static void noMargin(int mx, int my, int... feet) {
    marginIs(-10000, -10000, mx, my, feet);
  }

  private static void term2Margin() {
    int[] square = {-3, -4, 3, -4, 3, 4, -3, 4};
    sentence("Term 2", "the lesser of MIDDLE's y less low, and high less that");
    marginIs(4, 1, 0, 0, square);
    marginIs(3, 1, 0, 1, square);
    marginIs(3, 1, 0, -1, square);
    marginIs(0, 1, 0, 4, square);
    marginIs(0, 1, 0, -4, square);
    sentence("Term 2", "(below 0, if it is outside)");
    marginIs(-1, 1, 0, 5, square);
    marginIs(-1, 1, 0, -5, square);
    marginIs(-16, 1, 0, 20, square);
    marginIs(-16, 1, 0, -20, square);
    marginIs(-40, 1, 3, -20, 3, 20);
    sentence("Term 2", "None, if the line does not meet the SPAN");
    marginIs(4, 1, -3, 0, square);
    marginIs(4, 1, 3, 0, square);
    noMargin(-4, 0, square);
    noMargin(4, 0, square);
    noMargin(-20, 0, square);
    noMargin(20, 0, square);
    noMargin(0, 0);
    sentence("Term 2", "on the line .. the SPAN goes from low to high (a line, a point)");
    marginIs(0, 1, 5, 6, 5, 6);
    marginIs(-1, 1, 5, 7, 5, 6);
    marginIs(-1, 1, 5, 5, 5, 6);
    noMargin(4, 6, 5, 6);
    noMargin(6, 6, 5, 6);
    marginIs(1, 1, 5, 1, 5, 0, 5, 6);
    marginIs(0, 1, 5, 6, 5, 0, 5, 6);
    marginIs(-2, 1, 5, -2, 5, 0, 5, 6);
    marginIs(0, 1, 0, 0, -4, -2, 4, 2);
    marginIs(-1, 2, 1, 0, -4, -2, 4, 2);
    marginIs(-1, 2, 1, 1, -4, -2, 4, 2);
    marginIs(0, 1, 4, 2, -4, -2, 4, 2);
    noMargin(5, 2, -4, -2, 4, 2);
    marginsInLowestTerms();
    worst();
  }

  private static void marginsInLowestTerms() {
    sentence("Term 2", "two numbers without a common divisor, the second 1 or more");
    int[] thin = {-20, -20, 20, 20, 19, 20};
    marginIs(0, 1, 0, 0, thin);
    marginIs(-19, 39, 0, 1, thin);
    marginIs(-1, 1, 0, -1, thin);
    marginIs(1, 3, 1, 1, -3, 0, 3, 0, -3, 4);
    marginIs(2, 3, 0, 0, -2, 0, 4, 2, -2, -5);
    int[] moved = {1, 2, 3, 4, 5, 6};
    for (int v : moved) {
      LegBench x = on(0, 0, 2, at(-4, 0), at(5, 1), at(2, 7));
      lay(x, 7, 6, 7, 3, 5, 7);
      x.pace(v, 40);
      for (int t = 0; t < 6; t++) {
        inLowestTerms(x.margin(t, 0), x.margin(t, 1));
      }
      inLowestTerms(x.worst(0), x.worst(1));
    }
    sentence("Term 2", "two numbers (a foot moved by a half)");
    LegBench x = on(0, 4, 5, at(4, 5));
    lay(x, 1, 1, 0);
    x.pace(1, 40);
    for (int t = 0; t < 2; t++) {
      due("above", x.margin(t, 0), -1);
      due("below", x.margin(t, 1), 2);
    }
  }

  private static void inLowestTerms(long above, long below) {
    if (above == -10000) {
      due("below", below, -10000);
      return;
    }
    yes(below + " is 1 or more", below >= 1);
    for (long divisor = 2; divisor <= below; divisor++) {
      no(divisor + " divides " + above + " and " + below, above % divisor == 0 && below % divisor == 0);
    }
  }

  private static void worst() {
    LegBench x = new LegBench();
    sentence("Term 2", "WORST: the least MARGIN of its ticks");
    lay(x, 15, 7, 15);
    worstIs(x, 0, 1, 1);
    lay(x, 3, 7, 15);
    worstIs(x, -2, 1, 0);
    lay(x, 15, 7, 12);
    worstIs(x, -2, 1, 2);
    sentence("Term 2", "with one foot DOWN at least");
    lay(x, 0, 15, 0);
    worstIs(x, 2, 1, 1);
    x.middle(-3, 4);
    lay(x, 0, 0, 0, 4);
    worstIs(x, 0, 1, 3);
    sentence("Term 2", "none, if one of these has none");
    lay(x, 8, 15, 15);
    worstIs(x, -10000, -10000, -10000);
    lay(x, 15, 15, 8);
    worstIs(x, -10000, -10000, -10000);
    sentence("Term 2", "or there are none");
    lay(x, 0);
    worstIs(x, -10000, -10000, -10000);
    lay(x, 0, 0, 0, 0, 0, 0, 0, 0, 0, 0, 0, 0, 0, 0, 0, 0);
    worstIs(x, -10000, -10000, -10000);
    sentence("Term 2", "WORST of a GAIT that does not STAND, too");
    x.walker(4, 2);
    lay(x, 15, 6);
    no("walks", x.walks());
    worstIs(x, 0, 1, 1);
  }

  private static void refusesRows(int n, int u) {
    for (int which = 0; which < ROW_CALLS.length; which++) {
      int w = which;
      refuses(told(ROW_CALLS[w], n, u), x -> rowCall(x, w, n, u), ROW_REFUSALS[w]);
    }
  }

  private static void term3() {
    sentence("Term 3", "REGULAR rows: N ticks (2 .. 8)");
    for (int n = 2; n <= 8; n++) {
      allRowCallsAnswer(n);
    }
    for (int n : new int[] {LEAST, -8, -1, 0, 1, 9, 10, 16, 17, MOST}) {
      refusesRows(n, 1);
      refusesRows(n, 0);
      refusesRows(n, n - 1);
    }
    sentence("Term 3", "u of them up (1 .. N - 1)");
    for (int n = 2; n <= 8; n++) {
      for (int u : new int[] {LEAST, -n, -1, 0, n, n + 1, 16, MOST}) {
        refusesRows(n, u);
      }
    }
    mostUp();
    neverAndAlwaysUp();
    offsets();
    upTicks();
    fewEnoughRows();
    tooManyRows();
    rowsOneByOne();
  }

  // Two LEGS that HOP: the row with both up at once STANDS, and no other one.
  private static void allRowCallsAnswer(int n) {
    long[] due = {1, 1, 1, 0, 1, 0, 0};
    for (int which = 0; which < ROW_CALLS.length - 1; which++) {
      LegBench x = of(2, 1);
      x.regular(n, 1, 0);
      due(told(ROW_CALLS[which], n, 1), rowCall(x, which, n, 1), due[which]);
    }
    LegBench x = of(3, 1);
    x.middle(0, 4);
    x.leg(1, 3, 4);
    due(told("without", 0, n, 1), x.without(0, n, 1), 1);
  }

  private static void mostUp() {
    int[] due = {0, 0, 2, 3, 3, 2, 1, 0, 0};
    for (int n = 2; n <= 8; n++) {
      due(told("many", n, n - 1), groups(3).many(n, n - 1), due[n]);
      due(told("pick", n, n - 1), bit(groups(3).pick(n, n - 1, 0)), due[n] > 0 ? 1 : 0);
      due(told("best", n, n - 1), groups(3).best(n, n - 1), due[n] > 0 ? 0 : -1);
      due(told("unlike", n, n - 1), groups(3).unlike(n, n - 1), due[n]);
      LegBench x = groups(3);
      yes(told("regular", n, n - 1), x.regular(n, n - 1, 0x110 * (n / 2)));
      due(told("rank", n, n - 1) + " of one that stands", x.rank(n, n - 1) >= 0 ? 1 : 0, due[n] > 0 ? 1 : 0);
      LegBench y = groups(4);
      due(told("without", 3, n, n - 1), y.without(3, n, n - 1), due[n]);
    }
    due("many(7, 6) of 5", groups(5).many(7, 6), 12);
    yes("pick(7, 6, 11) of 5", groups(5).pick(7, 6, 11));
  }

  private static void neverAndAlwaysUp() {
    for (int n = 2; n <= 8; n++) {
      int[] sets = new int[n];
      LegBench x = of(2, 1);
      lay(x, sets);
      due("never DOWN", x.rank(n, n), -1);
      due("never DOWN", x.rank(n, n - 1), -1);
      Arrays.fill(sets, 3);
      lay(x, sets);
      due("always DOWN", x.rank(n, 0), -1);
      due("always DOWN", x.rank(n, 1), -1);
    }
  }

  private static void offsets() {
    sentence("Term 3", "an offset 0 .. N - 1 for each LEG");
    for (int k = 2; k <= 8; k++) {
      for (int n = 2; n <= 8; n++) {
        for (int i = 1; i < k; i++) {
          int legs = k;
          int size = n;
          int place = 4 * i;
          Scene scene = x -> x.walker(legs, 0);
          LegBench x = of(k, 0);
          yes("LEG " + i + " of " + k + ", offset " + (n - 1), x.regular(n, n - 1, (n - 1) << place));
          for (int offset = n; offset < 16; offset++) {
            no("LEG " + i + " of " + k + ", offset " + offset + " of " + n, x.regular(n, 1, offset << place));
          }
          due("its last tick is as it was", x.down(n - 1) >> i & 1, 0);
          refuses(scene, told("regular", n, 1, n << place), y -> bit(y.regular(size, 1, size << place)), 0);
        }
      }
    }
    sentence("Term 3", "that of LEG 0 is 0");
    for (int offset = 0; offset < 16; offset++) {
      LegBench x = of(2, 0);
      yes("regular", x.regular(3, 1, 16 + offset));
      due("LEG 0 up at 0, whatever is told", x.down(0), 2);
      due("LEG 1 up at 1", x.down(1), 1);
      due("none up at 2", x.down(2), 3);
    }
    sentence("Promise 8", "offsets (four bits each): those of LEGS that there are not are not looked at");
    yes("regular", of(2, 0).regular(2, 1, 0xffffff10));
    yes("regular", of(7, 0).regular(2, 1, 0xf1111110));
    no("regular", of(8, 0).regular(2, 1, 0xf1111110));
  }

  private static void upTicks() {
    sentence("Term 3", "LEG i is up at ticks t with (t - offset) modulo N less than u, else DOWN");
    for (int n = 2; n <= 8; n++) {
      for (int u = 1; u < n; u++) {
        for (int offset = 0; offset < n; offset++) {
          LegBench x = of(8, 0);
          yes("regular", x.regular(n, u, offset * 0x11111111));
          for (int t = 0; t < n; t++) {
            int others = Math.floorMod(t - offset, n) < u ? 0 : 254;
            due("tick " + t + " of " + n + ", u " + u + ", offset " + offset, x.down(t), t < u ? others : others | 1);
          }
          due("N", x.about(2), n);
        }
      }
    }
  }

  private static void fewEnoughRows() {
    sentence("Term 3", "N to the K - 1 is at most 2500");
    long[] least = {1, 1, 1, 0, 1, 0, 0};
    for (int k = 2; k <= 8; k++) {
      int n = MOST_TICKS[k];
      for (int which = 0; which < ROW_CALLS.length; which++) {
        LegBench x = of(k, 1);
        x.regular(n, 1, 0);
        boolean can = which < ROW_CALLS.length - 1 || k > 2;
        due(told(ROW_CALLS[which], n, 1) + " of " + k, rowCall(x, which, n, 1) >= least[which] ? 1 : 0, can ? 1 : 0);
      }
    }
    due("7 to the 4 are 2401", groups(5).many(7, 6), 12);
    due("3 to the 7 are 2187", of(8, 0).many(3, 1), 1762);
  }

  private static void tooManyRows() {
    sentence("Term 3", "else nothing is told of them (NONE)");
    for (int k = 5; k <= 8; k++) {
      for (int n = MOST_TICKS[k] + 1; n <= 8; n++) {
        int legs = k;
        int ticks = n;
        Scene stands = x -> {
          x.walker(legs, 1);
          x.regular(ticks, 1, 0);
        };
        yes("the row with all up at once stands", made(stands).walks());
        for (int which = 1; which < ROW_CALLS.length - 1; which++) {
          int w = which;
          refuses(stands, told(ROW_CALLS[w], n, 1) + " of " + k, x -> rowCall(x, w, ticks, 1), ROW_REFUSALS[w]);
          refuses(stands, told(ROW_CALLS[w], n, n - 1) + " of " + k, x -> rowCall(x, w, ticks, ticks - 1), ROW_REFUSALS[w]);
        }
      }
    }
    due("8 to the 4 are 4096", of(5, 0).many(8, 1), -1);
    due("5 to the 5 are 3125", of(6, 0).many(5, 1), -1);
  }

  // Every row is laid by itself, and what is told of all rows is worked out from what it tells then.
  private static void rowsOneByOne() {
    sentence("Term 3", "THE ORDER: by the offsets of LEG 1, then LEG 2 .., the lesser first");
    onRows(TermEdgeTests::areNumbered);
    onRows(TermEdgeTests::arePicked);
    sentence("Term 3", "MIRROR of a row: each LEG has its TWIN's offset, all less that of LEG 0, modulo N");
    onRows((scene, n, u) ->
        due(told("unlike", n, u), made(scene).unlike(n, u), unlikeOf(scene, n, standing(scene, n, u))));
    sentence("Promise 22", "The first of those with the greatest WORST (of each walker's rows, one by one)");
    onRows(TermEdgeTests::hasBest);
  }

  private static void onRows(RowTest test) {
    test.on(EdgeTools::fresh, 2, 1);
    test.on(EdgeTools::fresh, 4, 1);
    test.on(EdgeTools::fresh, 5, 1);
    test.on(EdgeTools::fresh, 5, 2);
    test.on(x -> x.pace(1, 10), 4, 1);
    test.on(x -> x.middle(1, 2), 5, 1);
    test.on(x -> x.walker(3, 1), 8, 1);
    test.on(x -> groupsOn(x, 1), 6, 4);
    test.on(x -> groupsOn(x, 0), 4, 2);
    test.on(EdgeTools::busy, 3, 1);
    test.on(EdgeTools::crossBound, 3, 1);
    test.on(x -> x.walker(5, 2), 3, 1);
  }

  private static void groupsOn(LegBench x, int kind) {
    x.walker(4, kind);
    x.leg(0, 0, 0);
    x.leg(1, -5, 0);
    x.leg(2, 5, 0);
    x.leg(3, 0, 5);
    x.middle(0, 0);
  }

  private static int rowsOf(Scene scene, int n) {
    int rows = 1;
    for (int i = 1; i < made(scene).about(0); i++) {
      rows *= n;
    }
    return rows;
  }

  // The walker of a scene with a row as its GAIT, the rows numbered in THE ORDER.
  private static LegBench withRow(Scene scene, int n, int u, int row) {
    LegBench x = made(scene);
    yes("regular", x.regular(n, u, packed(offsetsOf(row, n, x.about(0)))));
    return x;
  }

  private static List<Integer> standing(Scene scene, int n, int u) {
    List<Integer> standing = new ArrayList<>();
    int rows = rowsOf(scene, n);
    for (int row = 0; row < rows; row++) {
      if (withRow(scene, n, u, row).walks()) {
        standing.add(row);
      }
    }
    return standing;
  }

  private static void areNumbered(Scene scene, int n, int u) {
    List<Integer> standing = standing(scene, n, u);
    due(told("many", n, u), made(scene).many(n, u), standing.size());
    int rows = rowsOf(scene, n);
    for (int row = 0; row < rows; row++) {
      due("rank of row " + row, withRow(scene, n, u, row).rank(n, u), standing.indexOf(row));
    }
  }

  private static void arePicked(Scene scene, int n, int u) {
    List<Integer> standing = standing(scene, n, u);
    for (int number = 0; number < standing.size(); number++) {
      LegBench x = made(scene);
      yes(told("pick", n, u, number), x.pick(n, u, number));
      LegBench y = withRow(scene, n, u, standing.get(number));
      same(told("pick", n, u, number), state(x).toString(), state(y).toString());
    }
    for (int number : new int[] {LEAST, -1, standing.size(), standing.size() + 1, MOST}) {
      refuses(scene, told("pick", n, u, number), x -> bit(x.pick(n, u, number)), 0);
    }
  }

  private static void hasBest(Scene scene, int n, int u) {
    List<Integer> standing = standing(scene, n, u);
    int best = -1;
    long above = 0;
    long below = 1;
    for (int number = 0; number < standing.size(); number++) {
      LegBench x = withRow(scene, n, u, standing.get(number));
      if (best < 0 || x.worst(0) * below > above * x.worst(1)) {
        best = number;
        above = x.worst(0);
        below = x.worst(1);
      }
    }
    LegBench x = made(scene);
    due(told("best", n, u), x.best(n, u), best);
    if (best >= 0) {
      same("the GAIT", state(x).toString(), state(withRow(scene, n, u, standing.get(best))).toString());
    }
  }

  private static int[] offsetsOf(int row, int n, int k) {
    int[] offsets = new int[k];
    int rest = row;
    for (int i = k - 1; i > 0; i--) {
      offsets[i] = rest % n;
      rest /= n;
    }
    return offsets;
  }

  private static int rowOf(int[] offsets, int n) {
    int row = 0;
    for (int i = 1; i < offsets.length; i++) {
      row = row * n + offsets[i];
    }
    return row;
  }

  private static int packed(int[] offsets) {
    int packed = 0;
    for (int i = 0; i < offsets.length; i++) {
      packed |= offsets[i] << (4 * i);
    }
    return packed;
  }

  private static int unlikeOf(Scene scene, int n, List<Integer> standing) {
    LegBench x = made(scene);
    if (x.about(7) == 0) {
      return standing.size();
    }
    int k = x.about(0);
    int unlike = 0;
    for (int row : standing) {
      int[] offsets = offsetsOf(row, n, k);
      int[] mirror = new int[k];
      for (int i = 0; i < k; i++) {
        mirror[i] = Math.floorMod(offsets[x.about(30 + i)] - offsets[x.about(30)], n);
      }
      int other = rowOf(mirror, n);
      unlike += standing.contains(other) && other < row ? 0 : 1;
    }
    return unlike;
  }

  // ---- Term 4, and Promise 25 ----

  private static void term4() {
    sentence("Term 4", "at each tick at most m LEGS change");
    int[] ticks = {0, 4, 2, 2, 1, 1, 1, 1, 1};
    for (int m = 1; m <= 8; m++) {
      due("way(6, 9, " + m + ")", new LegBench().way(6, 9, m), ticks[m]);
    }
    // On LEG 0 alone to all of eight, and back.
    int[] seven = {0, 7, 4, 3, 2, 2, 2, 1, 1};
    for (int m = 1; m <= 8; m++) {
      LegBench x = of(8, 0);
      x.middle(-3, 0);
      due("way(1, 255, " + m + ")", x.way(1, 255, m), seven[m]);
      due("way(255, 1, " + m + ")", x.way(255, 1, m), seven[m]);
    }
    LegBench apart = of(8, 0);
    due("all eight change", apart.way(0x24 | 0x81, 0x18 | 0x42, 8), 1);
    due("but not seven at once", apart.way(0x24 | 0x81, 0x18 | 0x42, 7), 2);
    sentence("Term 4", "at each set (the first and last, too) the feet SPAN the MIDDLE");
    LegBench x = new LegBench();
    int[] holding = {6, 7, 9, 11, 13, 14, 15};
    for (int set = 0; set < 16; set++) {
      boolean holds = Arrays.binarySearch(holding, set) >= 0;
      due("no tick at " + set, x.way(set, set, 1), holds ? 0 : -1);
      due("from " + set, bit(x.way(set, 15, 4) >= 0), holds ? 1 : 0);
      due("to " + set, bit(x.way(15, set, 4) >= 0), holds ? 1 : 0);
    }
    sentence("Term 4", "at each set (those on the way, too)");
    LegBench pairs = of(6, 2);
    pairs.middle(0, 4);
    due("no half of a pair on the way", pairs.way(12, 51, 3), 3);
    due("none at all", pairs.way(12, 51, 1), -1);
    due("two pairs, then one", pairs.way(12, 51, 4), 2);
    sentence("Term 4", "the feet, at their PLACES (not where a GAIT has them)");
    LegBench y = oneStance(16, 0, 15);
    y.pace(9, 0);
    due("way", y.way(6, 9, 1), 4);
    y.tick(0, 0);
    due("way", y.way(15, 7, 1), 1);
    waysOfKinds();
    wrongWays();
  }

  private static void waysOfKinds() {
    sentence("Term 4", "(HOP: the empty set does not)");
    for (int kind = 0; kind <= 2; kind++) {
      LegBench x = of(4, kind);
      for (int m = 1; m <= 8; m++) {
        due("way(0, 0, " + m + ")", x.way(0, 0, m), -1);
        due("way(0, 15, " + m + ")", x.way(0, 15, m), -1);
        due("way(15, 0, " + m + ")", x.way(15, 0, m), -1);
      }
    }
    sentence("Term 4", "(BOUND: pairs)");
    LegBench x = of(6, 2);
    x.middle(0, 4);
    due("a pair by one", x.way(12, 15, 1), -1);
    due("a pair by two", x.way(12, 15, 2), 1);
    due("two pairs by two", x.way(12, 63, 2), 2);
    due("two pairs by three", x.way(12, 63, 3), 2);
    due("two pairs by four", x.way(12, 63, 4), 1);
    due("a pair for another two", x.way(12, 51, 6), 1);
    due("a pair for another two", x.way(12, 51, 5), 2);
    due("a pair for another two", x.way(12, 51, 2), 3);
    due("from half a pair", x.way(14, 63, 8), -1);
    due("to half a pair", x.way(63, 13, 8), -1);
    due("half a pair", x.way(13, 13, 8), -1);
    LegBench y = of(3, 2);
    y.middle(0, 0);
    due("the last of three by one", y.way(3, 7, 1), 1);
    due("the last of three by one", y.way(7, 3, 1), 1);
  }

  private static void wrongWays() {
    sentence("Promise 25", "at most m (1 .. 8) changes");
    for (int m : new int[] {LEAST, -1, 0, 9, 10, MOST}) {
      refuses(told("way", 15, 15, m), x -> x.way(15, 15, m), -1);
    }
    sentence("Promise 25", "NONE if one can't be (a set)");
    for (int k = 2; k <= 8; k++) {
      LegBench x = of(k, 0);
      int all = (1 << k) - 1;
      due("all of " + k, x.way(all, all, 1), 0);
      for (int set : new int[] {LEAST, -1, all + 1, 2 * all + 1, all + 1 + (all + 1) / 2, MOST}) {
        due(told("way", set, all, 8), x.way(set, all, 8), -1);
        due(told("way", all, set, 8), x.way(all, set, 8), -1);
        due(told("way", set, set, 8), x.way(set, set, 8), -1);
      }
    }
    sentence("Promise 25", "NONE if there is none");
    LegBench x = of(4, 2);
    x.middle(0, 0);
    due("no change of one LEG", x.way(15, 3, 1), -1);
    sentence("Promise 25", "The fewest ticks (0, if nothing changes)");
    due("way", x.way(3, 3, 1), 0);
    due("way", x.way(15, 15, 8), 0);
  }
}
