/** Each promise of the document by itself: ordinary inputs, the edges that it names, wrong inputs. */
public final class PromiseTests {
  private static int wrong = 0;
  private static String part = "";

  public static void main(String[] args) {
    newObject();
    walker();
    leg();
    middle();
    pace();
    gait();
    tick();
    regular();
    about();
    down();
    foot();
    standsStill();
    standsHop();
    standsBound();
    walks();
    why();
    margin();
    worst();
    fastest();
    many();
    pick();
    rank();
    unlike();
    best();
    without();
    loads();
    way();
    undo();
    questionsChangeNothing();
    System.out.println(wrong == 0 ? "all promises hold" : wrong + " answers are not as promised");
    if (wrong != 0) {
      System.exit(1);
    }
  }

  private static void begin(String name) {
    part = name;
  }

  private static void due(String call, long got, long want) {
    if (got != want) {
      wrong++;
      System.out.println(part + ": " + call + " answered " + got + ", due is " + want);
    }
  }

  private static void yes(String call, boolean got) {
    due(call, got ? 1 : 0, 1);
  }

  private static void no(String call, boolean got) {
    due(call, got ? 1 : 0, 0);
  }

  private static LegBench of(int k, int kind) {
    LegBench x = new LegBench();
    yes("walker", x.walker(k, kind));
    return x;
  }

  /** A gait of up to four sets. */
  private static void lay(LegBench x, int... sets) {
    int word = 0;
    for (int t = 0; t < sets.length; t++) {
      word |= sets[t] << (8 * t);
    }
    due("gait", x.gait(2, sets.length, word, 0, 0, 0), sets.length);
  }

  private static void looks(LegBench x, int... abouts) {
    for (int what = 0; what < abouts.length; what++) {
      due("about(" + what + ")", x.about(what), abouts[what]);
    }
  }

  private static void rowIs(LegBench x, int... sets) {
    due("about(2)", x.about(2), sets.length);
    for (int t = 0; t < sets.length; t++) {
      due("down(" + t + ")", x.down(t), sets[t]);
    }
  }

  private static void newObject() {
    begin("1 a new object");
    LegBench x = new LegBench();
    looks(x, 4, 0, 1, 0, 10, 0, 2, 1);
    rowIs(x, 15);
    no("undo", x.undo());
    due("NONE", LegBench.NONE, -1);
  }

  private static void walker() {
    begin("2 walker");
    int[] middles = {0, 0, 0, 2, 2, 4, 4, 6, 6};
    for (int k = 2; k <= 8; k++) {
      for (int kind = 0; kind <= 2; kind++) {
        LegBench x = new LegBench();
        x.leg(0, 9, 9);
        x.middle(5, 5);
        x.pace(3, 3);
        lay(x, 1, 2, 3);
        yes("walker", x.walker(k, kind));
        looks(x, k, kind, 1, 0, 10, 0, middles[k], k % 2 == 0 ? 1 : 0);
        rowIs(x, (1 << k) - 1);
        for (int i = 0; i < 8; i++) {
          due("x of " + i, x.about(10 + i), i >= k ? -100 : i % 2 == 0 ? -3 : 3);
          due("y of " + i, x.about(20 + i), i >= k ? -100 : 4 * (i / 2));
        }
      }
    }
    LegBench x = new LegBench();
    x.pace(3, 3);
    int[][] refused = {{1, 0}, {9, 0}, {0, 0}, {-4, 0}, {4, -1}, {4, 3}, {Integer.MIN_VALUE, 0}, {4, Integer.MAX_VALUE}};
    for (int[] r : refused) {
      no("walker " + r[0] + " " + r[1], x.walker(r[0], r[1]));
    }
    looks(x, 4, 0, 1, 3, 3, 0, 2, 1);
    yes("undo", x.undo());
    no("undo", x.undo());
  }

  private static void leg() {
    begin("3 leg");
    LegBench x = new LegBench();
    yes("leg", x.leg(0, -20, 20));
    due("x", x.about(10), -20);
    due("y", x.about(20), 20);
    yes("a place that was left", x.leg(1, -3, 0));
    yes("its own place", x.leg(1, -3, 0));
    yes("the middle's place", x.leg(2, 0, 2));
    no("another one is there", x.leg(3, -20, 20));
    int[][] refused = {{-1, 0, 0}, {4, 0, 0}, {0, 21, 0}, {0, -21, 0}, {0, 0, 21}, {0, 0, -21}};
    for (int[] r : refused) {
      no("leg " + r[0] + " " + r[1] + " " + r[2], x.leg(r[0], r[1], r[2]));
    }
    due("x of 3", x.about(13), 3);
    due("x of 0", x.about(10), -20);
    for (int u = 0; u < 4; u++) {
      yes("undo", x.undo());
    }
    no("undo", x.undo());
  }

  private static void middle() {
    begin("4 middle");
    LegBench x = new LegBench();
    yes("middle", x.middle(-20, 20));
    due("x", x.about(5), -20);
    due("y", x.about(6), 20);
    yes("on a leg's place", x.middle(3, 4));
    no("x above", x.middle(21, 0));
    no("x below", x.middle(-21, 0));
    no("y above", x.middle(0, 21));
    no("y below", x.middle(0, -21));
    due("x", x.about(5), 3);
    due("y", x.about(6), 4);
    yes("undo", x.undo());
    due("x", x.about(5), -20);
  }

  private static void pace() {
    begin("5 pace");
    LegBench x = new LegBench();
    yes("pace", x.pace(9, 40));
    due("v", x.about(3), 9);
    due("reach", x.about(4), 40);
    yes("pace", x.pace(0, 0));
    no("v above", x.pace(10, 1));
    no("v below", x.pace(-1, 1));
    no("reach above", x.pace(1, 41));
    no("reach below", x.pace(1, -1));
    due("v", x.about(3), 0);
    due("reach", x.about(4), 0);
    yes("undo", x.undo());
    due("v", x.about(3), 9);
  }

  private static void gait() {
    begin("6 gait");
    for (int kind = 0; kind <= 2; kind++) {
      LegBench x = of(8, 0);
      due("gait", x.gait(kind, 16, 0x84030281, 0x08070605, 0x0c0b0a09, 0xff0f0e0d), 16);
      rowIs(x, 0x81, 2, 3, 0x84, 5, 6, 7, 8, 9, 10, 11, 12, 13, 14, 15, 255);
      due("gait", x.gait(kind, 5, -1, -1, 0, 0), 5);
      rowIs(x, 255, 255, 255, 255, 255);
      due("gait", x.gait(kind, 1, 0, 0, 0, 0), 1);
      rowIs(x, 0);
    }
    LegBench x = of(3, 0);
    due("legs above K", x.gait(0, 2, 0x7ff8, 0, 0, 0), 2);
    rowIs(x, 0, 7);
    int[][] refused = {{-1, 1}, {3, 1}, {0, 0}, {0, -1}, {0, 17}};
    for (int[] r : refused) {
      due("gait " + r[0] + " " + r[1], x.gait(r[0], r[1], 5, 5, 5, 5), -1);
    }
    rowIs(x, 0, 7);
    yes("undo", x.undo());
    rowIs(x, 7);
  }

  private static void tick() {
    begin("7 tick");
    LegBench x = new LegBench();
    lay(x, 1, 2, 3);
    yes("tick", x.tick(2, 15));
    yes("tick", x.tick(0, 0));
    no("set above", x.tick(1, 16));
    no("set below", x.tick(1, -1));
    no("tick above", x.tick(3, 1));
    no("tick below", x.tick(-1, 1));
    rowIs(x, 0, 2, 15);
    yes("undo", x.undo());
    rowIs(x, 1, 2, 15);
  }

  private static void regular() {
    begin("8 regular");
    LegBench x = new LegBench();
    yes("leg 0's does not count", x.regular(4, 1, 0x321f));
    rowIs(x, 14, 13, 11, 7);
    yes("a stance over the end", x.regular(3, 2, 0x0120));
    rowIs(x, 4, 2, 9);
    yes("n 8", x.regular(8, 7, 0x7777));
    rowIs(x, 0, 0, 0, 0, 0, 0, 14, 1);
    yes("n 2", x.regular(2, 1, 0x1010));
    rowIs(x, 10, 5);
    int[][] refused = {{1, 1, 0}, {9, 1, 0}, {0, 0, 0}, {-2, 1, 0}, {4, 0, 0}, {4, 4, 0}, {4, -1, 0}, {4, 1, 0x4000}, {4, 1, 0x40}};
    for (int[] r : refused) {
      no("regular " + r[0] + " " + r[1] + " " + r[2], x.regular(r[0], r[1], r[2]));
    }
    rowIs(x, 10, 5);
    yes("undo", x.undo());
    rowIs(x, 0, 0, 0, 0, 0, 0, 14, 1);
    LegBench y = of(8, 0);
    yes("more than 2500 rows", y.regular(8, 1, 0x76543210));
    rowIs(y, 254, 253, 251, 247, 239, 223, 191, 127);
    no("the highest offset", y.regular(8, 1, 0x86543210));
    no("the highest offset", y.regular(8, 1, -1));
  }

  private static void about() {
    begin("9 about");
    LegBench x = of(5, 1);
    x.leg(4, 0, 7);
    x.pace(6, 33);
    lay(x, 1, 2);
    looks(x, 5, 1, 2, 6, 33, 0, 4, 1);
    int[] twins = {1, 0, 3, 2, 4, -100, -100, -100};
    for (int i = 0; i < 8; i++) {
      due("twin of " + i, x.about(30 + i), twins[i]);
    }
    int[] nothing = {-1, 8, 9, 15, 18, 19, 25, 28, 29, 38, 39, 40, -10, -30, Integer.MIN_VALUE, Integer.MAX_VALUE};
    for (int what : nothing) {
      due("about " + what, x.about(what), -100);
    }
    x.middle(1, 4);
    due("a middle at x 1", x.about(7), 0);
    x.middle(0, -9);
    due("a middle at x 0", x.about(7), 1);
    x.leg(4, 1, 7);
    due("a leg without a twin", x.about(7), 0);
    due("its twin", x.about(34), -100);
    x.leg(4, 3, 8);
    due("a leg at another y", x.about(34), -100);
    LegBench y = of(3, 0);
    y.leg(2, -3, 1);
    y.leg(1, 3, 1);
    due("only leg 0 has no twin", y.about(7), 0);
    y.leg(0, 0, 1);
    due("all have twins", y.about(7), 1);
  }

  private static void down() {
    begin("10 down");
    LegBench x = new LegBench();
    lay(x, 5, 10);
    due("down", x.down(0), 5);
    due("down", x.down(1), 10);
    due("down", x.down(2), -1);
    due("down", x.down(-1), -1);
    due("down", x.down(Integer.MAX_VALUE), -1);
  }

  private static void foot() {
    begin("11 foot");
    LegBench x = new LegBench();
    x.pace(3, 10);
    // Leg 0 is down over the end of the row, leg 1 always, leg 2 twice.
    due("gait", x.gait(0, 6, 0x06020703, 0x0307, 0, 0), 6);
    rowIs(x, 3, 7, 2, 6, 7, 3);
    int[] leg0 = {-3, -9, -1000, -1000, 9, 3};
    int[] leg2 = {-1000, 8, -1000, 8 + 3, 8 - 3, -1000};
    for (int t = 0; t < 6; t++) {
      due("leg 0 at " + t, x.foot(0, t, 1), leg0[t]);
      due("leg 1 at " + t, x.foot(1, t, 1), 0);
      due("leg 2 at " + t, x.foot(2, t, 1), leg2[t]);
      due("leg 3 at " + t, x.foot(3, t, 1), -1000);
      due("leg 0's x at " + t, x.foot(0, t, 0), leg0[t] == -1000 ? -1000 : -6);
    }
    due("leg 1's x", x.foot(1, 0, 0), 6);
    int[][] refused = {{-1, 0, 0}, {4, 0, 0}, {0, -1, 0}, {0, 6, 0}, {0, 0, -1}, {0, 0, 2}};
    for (int[] r : refused) {
      due("foot " + r[0] + " " + r[1] + " " + r[2], x.foot(r[0], r[1], r[2]), -1000);
    }
  }

  private static void standsOn(LegBench x, int... sets) {
    for (int set : sets) {
      lay(x, set);
      due("stands on " + set, x.stands(0), 1);
    }
  }

  private static void fallsOn(LegBench x, int... sets) {
    for (int set : sets) {
      lay(x, set);
      due("stands on " + set, x.stands(0), 0);
    }
  }

  private static void standsStill() {
    begin("12 stands, STILL");
    LegBench x = new LegBench();
    standsOn(x, 15, 6, 9, 7, 11, 13, 14);
    fallsOn(x, 0, 1, 2, 4, 8, 3, 5, 10, 12);
    x.middle(-3, 4);
    standsOn(x, 4, 5, 12, 6, 15);
    fallsOn(x, 0, 1, 2, 8, 3, 9, 10, 11);
    x.middle(-3, 5);
    fallsOn(x, 4, 5, 15);
    x.middle(-3, 2);
    standsOn(x, 5, 7, 13, 15);
    fallsOn(x, 4, 6, 9, 11);
    due("no such tick", x.stands(1), -1);
    due("no such tick", x.stands(-1), -1);
    // The feet have moved on: at tick 0 both are ahead of the middle by a half.
    LegBench y = of(2, 0);
    lay(y, 3, 3, 0);
    due("stands", y.stands(0), 1);
    y.pace(1, 10);
    due("stands", y.stands(0), 0);
    due("stands", y.stands(1), 0);
    lay(y, 3, 3, 3);
    due("stands", y.stands(1), 1);
  }

  private static void standsHop() {
    begin("12 stands, HOP");
    LegBench x = of(4, 1);
    standsOn(x, 15, 6);
    fallsOn(x, 0, 3);
    int[][] rows = {{15, 0}, {0, 0, 15}, {0, 15, 15, 0}, {15, 0, 0, 15}, {15, 0, 15, 0}};
    for (int[] row : rows) {
      lay(x, row);
      yes("walks", x.walks());
    }
    lay(x, 0, 0);
    due("all are empty", x.stands(0), 0);
    due("all are empty", x.stands(1), 0);
    lay(x, 0, 0, 15, 0);
    int[] over = {0, 0, 1, 0};
    for (int t = 0; t < 4; t++) {
      due("three over the end, at " + t, x.stands(t), over[t]);
    }
    due("gait", x.gait(1, 8, 0x000f000f, 0x0f0f0000, 0, 0), 8);
    rowIs(x, 15, 0, 15, 0, 0, 0, 15, 15);
    int[] apart = {1, 1, 1, 0, 0, 0, 1, 1};
    for (int t = 0; t < 8; t++) {
      due("one apart from three, at " + t, x.stands(t), apart[t]);
    }
  }

  private static void standsBound() {
    begin("12 stands, BOUND");
    LegBench x = of(4, 2);
    standsOn(x, 15);
    fallsOn(x, 0, 6, 9, 7, 11, 13, 14, 3, 12);
    x.middle(0, 0);
    standsOn(x, 15, 3);
    fallsOn(x, 0, 7, 11, 12);
    standsBoundOdd();
  }

  // The last of an odd number of legs has no second one, so it is not bound to another one.
  private static void standsBoundOdd() {
    LegBench x = of(3, 2);
    due("three legs, all down", x.why(), -1);
    due("three legs, all down", x.loads(2), 4);
    due("three legs, all down", x.loads(0), 7);
    standsOn(x, 7);
    fallsOn(x, 0, 1, 2, 3, 4, 5, 6);
    x.middle(-3, 4);
    standsOn(x, 4, 7);
    fallsOn(x, 5, 6);
    LegBench y = of(5, 2);
    standsOn(y, 12, 15, 19, 28, 31);
    // With 18 and with 22 the middle is in the span, but legs 0 and 1 are parted.
    fallsOn(y, 0, 3, 16, 18, 22, 23, 27, 29, 30);
    LegBench z = of(7, 2);
    standsOn(z, 60, 63, 64 + 3, 64 + 15, 64 + 60, 127);
    fallsOn(z, 15, 64, 64 + 7, 64 + 62, 64 + 31);
    z.walker(8, 2);
    standsOn(z, 63, 255);
    fallsOn(z, 127, 191);
  }

  private static void walks() {
    begin("13 walks");
    LegBench x = new LegBench();
    yes("walks", x.walks());
    lay(x, 15, 3);
    no("a tick falls", x.walks());
    // Legs 1 and 2 always hold the middle; 0 and 3 have stances of two ticks.
    lay(x, 15, 15, 6);
    x.pace(3, 1);
    no("3 / 2 is beyond 1", x.walks());
    x.pace(3, 2);
    yes("3 / 2 is within 2", x.walks());
    x.pace(2, 1);
    yes("2 / 2 is within 1", x.walks());
    x.pace(1, 0);
    no("1 / 2 is beyond 0", x.walks());
    lay(x, 15, 15, 15);
    x.pace(9, 0);
    yes("always down", x.walks());
  }

  private static void why() {
    begin("14 why");
    LegBench x = new LegBench();
    due("why", x.why(), -1);
    lay(x, 15, 15, 3, 3);
    due("the first that falls", x.why(), 2);
    lay(x, 15, 15, 6);
    x.pace(3, 1);
    due("the least leg", x.why(), 100);
    lay(x, 15, 15, 7);
    due("leg 3 alone", x.why(), 103);
    lay(x, 15, 15, 3);
    due("a tick ahead of a leg", x.why(), 2);
    lay(x, 15, 6);
    due("why", x.why(), -1);
    LegBench y = new LegBench();
    y.pace(9, 4);
    // Leg 0 has a short stance and a long one.
    due("gait", y.gait(0, 6, 0x0f06060f, 0x060f, 0, 0), 6);
    rowIs(y, 15, 6, 6, 15, 15, 6);
    due("the longer stance", y.why(), 100);
    y.pace(9, 5);
    due("why", y.why(), -1);
  }

  private static void marginIs(LegBench x, int t, long above, long below) {
    due("margin above at " + t, x.margin(t, 0), above);
    due("margin below at " + t, x.margin(t, 1), below);
  }

  private static void margin() {
    begin("15 margin");
    LegBench x = new LegBench();
    marginIs(x, 0, 2, 1);
    lay(x, 7, 4, 0);
    marginIs(x, 0, 0, 1);
    marginIs(x, 1, -10000, -10000);
    marginIs(x, 2, -10000, -10000);
    x.middle(0, 1);
    marginIs(x, 0, 1, 1);
    x.middle(1, 1);
    marginIs(x, 0, 1, 3);
    x.middle(1, 2);
    marginIs(x, 0, -2, 3);
    x.middle(-1, -3);
    marginIs(x, 0, -3, 1);
    x.middle(-3, 4);
    marginIs(x, 1, 0, 1);
    x.middle(-3, 6);
    marginIs(x, 1, -2, 1);
    marginIs(x, 0, -2, 1);
    x.middle(4, 1);
    marginIs(x, 0, -10000, -10000);
    int[][] refused = {{-1, 0}, {3, 0}, {0, -1}, {0, 2}};
    x.middle(0, 1);
    for (int[] r : refused) {
      due("margin " + r[0] + " " + r[1], x.margin(r[0], r[1]), -10000);
    }
    // Feet ahead by a half: 1/2 to 4 + 1/2, seen from 1.
    lay(x, 15, 15, 0);
    x.pace(1, 10);
    marginIs(x, 0, 1, 2);
    marginIs(x, 1, 3, 2);
    // A margin there is, though BOUND does not stand.
    LegBench y = of(4, 2);
    lay(y, 7);
    marginIs(y, 0, 0, 1);
  }

  private static void worstIs(LegBench x, long above, long below, long first) {
    due("worst(0)", x.worst(0), above);
    due("worst(1)", x.worst(1), below);
    due("worst(2)", x.worst(2), first);
  }

  private static void worst() {
    begin("16 worst");
    LegBench x = new LegBench();
    lay(x, 15, 7, 15, 7);
    worstIs(x, 0, 1, 1);
    lay(x, 15, 0, 15);
    worstIs(x, 2, 1, 0);
    lay(x, 0, 0);
    worstIs(x, -10000, -10000, -10000);
    lay(x, 15, 5);
    worstIs(x, -10000, -10000, -10000);
    lay(x, 15, 3, 12);
    worstIs(x, -2, 1, 1);
    x.middle(1, 2);
    lay(x, 15, 7, 14);
    worstIs(x, -2, 3, 1);
    due("worst(3)", x.worst(3), -10000);
    due("worst(-1)", x.worst(-1), -10000);
  }

  private static void fastest() {
    begin("17 fastest");
    LegBench x = new LegBench();
    x.pace(4, 0);
    due("always down", x.fastest(), 9);
    lay(x, 15, 15, 6);
    due("reach 0", x.fastest(), 0);
    x.pace(9, 1);
    due("reach 1", x.fastest(), 2);
    x.pace(9, 4);
    due("reach 4", x.fastest(), 8);
    x.pace(0, 5);
    due("reach 5", x.fastest(), 9);
    due("the speed stays", x.about(3), 0);
    lay(x, 15, 3);
    due("a tick falls", x.fastest(), -1);
    // With 0 only: the two feet move off the middle.
    LegBench y = of(2, 1);
    lay(y, 3, 3, 0);
    due("with 0 only", y.fastest(), 0);
    // With a greater one only: the foot comes to the middle at 2.
    LegBench z = of(4, 1);
    z.middle(-3, 1);
    lay(z, 1, 5, 4, 0);
    due("with 2 only", z.fastest(), -1);
    z.leg(2, -3, 2);
    due("with 2 only", z.fastest(), 2);
  }

  private static void many() {
    begin("18 many");
    LegBench x = new LegBench();
    due("many(2, 1)", x.many(2, 1), 1);
    due("many(4, 1)", x.many(4, 1), 21);
    int[][] refused = {{1, 1}, {1, 0}, {9, 1}, {4, 0}, {4, 4}, {0, 0}, {-1, 1}, {4, -1}};
    for (int[] r : refused) {
      due("many " + r[0] + " " + r[1], x.many(r[0], r[1]), -1);
    }
    x.pace(1, 0);
    due("beyond reach", x.many(4, 1), 0);
    due("a stance of one tick", x.many(2, 1), 1);
    LegBench y = of(2, 1);
    due("both up at once", y.many(8, 1), 1);
    due("for two ticks", y.many(8, 2), 1);
    due("for three", y.many(8, 3), 0);
    LegBench z = of(6, 2);
    due("in pairs", z.many(3, 1), 4);
    LegBench odd = of(5, 2);
    due("two pairs, and a leg that is not up with legs 2 and 3", odd.many(3, 1), 4);
    yes("the last of them", odd.pick(3, 1, 3));
    rowIs(odd, 28, 15, 19);
    due("the last of them", odd.rank(3, 1), 3);
    due("too many rows", z.many(5, 1), -1);
    due("not too many", of(6, 0).many(4, 3), 0);
    due("7 to the 4 are 2401", of(5, 0).many(7, 6), 0);
    due("8 to the 4 are 4096", of(5, 0).many(8, 7), -1);
    due("3 to the 7 are 2187", of(8, 0).many(3, 1), 1762);
  }

  private static void pick() {
    begin("19 pick");
    LegBench x = of(6, 2);
    int[][] rows = {{12, 51, 63}, {60, 51, 15}, {12, 63, 51}, {60, 15, 51}};
    for (int k = 0; k < 4; k++) {
      yes("pick", x.pick(3, 1, k));
      rowIs(x, rows[k]);
    }
    no("beyond the last", x.pick(3, 1, 4));
    no("ahead of the first", x.pick(3, 1, -1));
    no("no such n", x.pick(1, 1, 0));
    no("no such u", x.pick(3, 3, 0));
    no("too many rows", x.pick(5, 1, 0));
    rowIs(x, rows[3]);
    yes("undo", x.undo());
    rowIs(x, rows[2]);
    LegBench y = new LegBench();
    for (int k = 0; k < 21; k++) {
      yes("pick", y.pick(4, 1, k));
      yes("walks", y.walks());
      due("rank", y.rank(4, 1), k);
    }
    // The middle is on leg 0 and on the line of legs 1 and 2: the very last row stands, too.
    LegBench z = new LegBench();
    z.leg(0, 0, 2);
    due("many", z.many(2, 1), 2);
    yes("the last row", z.pick(2, 1, 1));
    rowIs(z, 14, 1);
    due("rank", z.rank(2, 1), 1);
  }

  private static void rank() {
    begin("20 rank");
    LegBench x = new LegBench();
    due("not regular", x.rank(2, 1), -1);
    lay(x, 6, 9);
    due("rank", x.rank(2, 1), 0);
    due("another n", x.rank(4, 2), -1);
    lay(x, 9, 6);
    due("leg 0 is up at 0", x.rank(2, 1), -1);
    lay(x, 14, 13, 11, 7);
    due("rank", x.rank(4, 1), 4);
    due("another u", x.rank(4, 2), -1);
    lay(x, 14, 14, 11, 7);
    due("one tick differs", x.rank(4, 1), -1);
    lay(x, 14, 13, 11, 7);
    x.pace(2, 10);
    due("it does not stand", x.rank(4, 1), -1);
    x.pace(0, 10);
    due("no such n", x.rank(9, 1), -1);
    due("no such u", x.rank(4, 0), -1);
    due("no such u", x.rank(4, 4), -1);
    LegBench y = of(8, 1);
    y.regular(4, 1, 0);
    due("too many rows", y.rank(4, 1), -1);
    LegBench z = of(5, 2);
    z.regular(4, 1, 0);
    due("rank of one that falls", z.rank(4, 1), -1);
  }

  private static void unlike() {
    begin("21 unlike");
    LegBench x = new LegBench();
    due("unlike", x.unlike(2, 1), 1);
    due("unlike", x.unlike(4, 1), 12);
    due("no such n", x.unlike(1, 1), -1);
    due("no such u", x.unlike(4, 4), -1);
    due("too many rows", of(8, 0).unlike(4, 1), -1);
    due("each its own mirror", of(6, 2).unlike(3, 1), 4);
    // Not mirrored, though as many stand.
    x.leg(3, 4, 4);
    x.middle(0, 1);
    due("not mirrored", x.about(7), 0);
    due("as many", x.unlike(4, 1), x.many(4, 1));
    // Legs 2 and 4 are twins, but no pair: with BOUND the mirror of a row that stands need not stand.
    LegBench y = of(6, 2);
    y.middle(0, 0);
    int[][] places = {{-8, 0}, {8, 0}, {-3, 0}, {0, 5}, {3, 0}, {0, -5}};
    for (int i = 0; i < 6; i++) {
      yes("leg " + i, y.leg(i, places[i][0], places[i][1]));
    }
    due("mirrored", y.about(7), 1);
    due("many", y.many(3, 1), 4);
    due("unlike", y.unlike(3, 1), 4);
  }

  private static void best() {
    begin("22 best");
    LegBench x = of(4, 1);
    lay(x, 15, 0, 15);
    due("best", x.best(4, 1), 0);
    rowIs(x, 0, 15, 15, 15);
    worstIs(x, 2, 1, 1);
    due("none", x.best(8, 7), -1);
    rowIs(x, 0, 15, 15, 15);
    due("no such n", x.best(1, 1), -1);
    due("no such u", x.best(4, 4), -1);
    due("too many rows", of(8, 0).best(4, 1), -1);
    yes("undo", x.undo());
    rowIs(x, 15, 0, 15);
    // No row ahead of the found one is as good, none behind it is better.
    LegBench y = of(6, 0);
    int found = y.best(4, 1);
    int number = y.rank(4, 1);
    due("its number", found, number);
    long above = y.worst(0);
    long below = y.worst(1);
    int many = y.many(4, 1);
    for (int k = 0; k < many; k++) {
      // A new one each time: an object is used for 512 calls at most.
      LegBench z = of(6, 0);
      z.pick(4, 1, k);
      long more = z.worst(0) * below - above * z.worst(1);
      if (k < found ? more >= 0 : more > 0) {
        due("row " + k + " is better than " + found, 1, 0);
      }
    }
    yes("not the first row", found > 0);
  }

  private static void without() {
    begin("23 without");
    LegBench x = of(3, 1);
    due("without 0", x.without(0, 4, 1), 1);
    due("without 0", x.without(0, 8, 2), 1);
    due("without 0", x.without(0, 8, 3), 0);
    due("without 1", x.without(1, 4, 1), 0);
    due("without 2", x.without(2, 4, 1), 0);
    due("no such leg", x.without(3, 4, 1), -1);
    due("no such leg", x.without(-1, 4, 1), -1);
    due("no such n", x.without(0, 9, 1), -1);
    due("no such u", x.without(0, 4, 4), -1);
    looks(x, 3, 1, 1, 0, 10, 0, 2, 0);
    due("two legs", of(2, 1).without(0, 4, 1), -1);
    due("BOUND", of(4, 2).without(0, 4, 1), -1);
    due("4 to the 6 are 4096", of(8, 0).without(0, 4, 1), -1);
    due("3 to the 6 are 729", of(8, 0).without(0, 3, 1), 468);
    due("4 to the 5 are 1024", of(7, 0).without(6, 4, 3), 0);
  }

  private static void loads() {
    begin("24 loads");
    LegBench x = new LegBench();
    lay(x, 7);
    int[] places = {0, 7, 5, 4, 2, 1, 0};
    for (int y = -1; y <= 5; y++) {
      due("loads " + y, x.loads(y), places[y + 1]);
    }
    due("y 20", x.loads(20), 0);
    due("y -20", x.loads(-20), 0);
    due("y 21", x.loads(21), -1);
    due("y -21", x.loads(-21), -1);
    due("the middle stays", x.about(6), 2);
    lay(x, 7, 14);
    due("the common part", x.loads(2), 1);
    LegBench w = of(2, 0);
    w.leg(0, -20, 0);
    w.leg(1, 20, 0);
    due("all", w.loads(0), 41);
    w.pace(9, 0);
    lay(w, 3, 3, 1);
    due("beyond reach", w.loads(0), 0);
  }

  private static void way() {
    begin("25 way");
    LegBench x = new LegBench();
    due("way", x.way(15, 6, 1), 2);
    due("way", x.way(6, 9, 1), 4);
    due("way", x.way(6, 9, 3), 2);
    due("way", x.way(6, 9, 4), 1);
    due("way", x.way(6, 9, 8), 1);
    due("no step", x.way(7, 7, 1), 0);
    due("no stand", x.way(3, 3, 1), -1);
    due("the last is no stand", x.way(15, 3, 4), -1);
    int[][] refused = {{-1, 15, 1}, {16, 15, 1}, {15, -1, 1}, {15, 16, 1}, {15, 15, 0}, {15, 15, 9}, {15, 15, -1}};
    for (int[] r : refused) {
      due("way " + r[0] + " " + r[1] + " " + r[2], x.way(r[0], r[1], r[2]), -1);
    }
    x.pace(9, 0);
    lay(x, 3, 12);
    due("speed and gait do not count", x.way(6, 9, 1), 4);
    x.middle(-3, 0);
    due("on one foot", x.way(1, 15, 1), 3);
    due("on one foot", x.way(15, 1, 2), 2);
    due("on one foot", x.way(1, 1, 1), 0);
    LegBench y = of(4, 2);
    due("the empty one", y.way(0, 0, 1), -1);
    y.middle(0, 0);
    due("pairs", y.way(3, 15, 1), -1);
    due("pairs", y.way(3, 15, 2), 1);
    due("no pairs", y.way(7, 15, 2), -1);
    LegBench odd = of(5, 2);
    due("the last leg alone", odd.way(12, 28, 1), 1);
    due("two pairs and the last leg", odd.way(12, 19, 2), 3);
    due("two pairs and the last leg", odd.way(12, 19, 3), 2);
    due("two pairs and the last leg", odd.way(12, 19, 5), 1);
    due("no pair by one leg at a tick", odd.way(12, 31, 1), -1);
    due("legs 0 and 1 are parted", odd.way(31, 18, 8), -1);
    LegBench z = of(4, 1);
    due("the empty one", z.way(15, 0, 8), -1);
    due("the empty one", z.way(0, 15, 8), -1);
    due("not through the empty one", z.way(6, 9, 2), 2);
    LegBench w = of(2, 0);
    w.leg(0, 0, 0);
    w.leg(1, 0, 4);
    due("no way", w.way(1, 2, 1), -1);
    w.middle(0, 4);
    due("way", w.way(2, 3, 1), 1);
    LegBench v = of(8, 0);
    due("way", v.way(255, 0x99, 1), 4);
    v.walker(4, 0);
    due("a set of legs that were", v.way(255, 255, 1), -1);
    due("a set of legs that were", v.way(15, 255, 8), -1);
    due("a set of legs that were", v.way(255, 15, 8), -1);
  }

  private static void undo() {
    begin("26 undo");
    LegBench x = new LegBench();
    no("undo", x.undo());
    for (int v = 0; v <= 9; v++) {
      x.pace(v, v);
    }
    for (int u = 8; u >= 1; u--) {
      yes("undo", x.undo());
      due("speed", x.about(3), u);
    }
    no("the ninth", x.undo());
    due("speed", x.about(3), 1);
    x.walker(6, 1);
    x.leg(0, 9, 9);
    x.middle(1, 1);
    x.gait(0, 2, 0x3f3f, 0, 0, 0);
    x.tick(0, 5);
    x.regular(3, 1, 0);
    x.middle(0, 4);
    x.leg(0, -3, 0);
    yes("pick", x.pick(4, 1, 3));
    yes("best", x.best(3, 1) >= 0);
    no("refused", x.tick(5, 5));
    yes("best", x.undo());
    due("n", x.about(2), 4);
    due("rank", x.rank(4, 1), 3);
    yes("pick", x.undo());
    due("n", x.about(2), 3);
    yes("leg", x.undo());
    due("leg", x.about(10), 9);
    yes("middle", x.undo());
    due("middle", x.about(5), 1);
    yes("regular", x.undo());
    rowIs(x, 5, 63);
    yes("tick", x.undo());
    rowIs(x, 63, 63);
    yes("gait", x.undo());
    rowIs(x, 63);
    x.pace(5, 5);
    yes("a new one", x.undo());
    due("speed", x.about(3), 0);
    yes("middle", x.undo());
    due("middle", x.about(6), 4);
    no("no more", x.undo());
    looks(x, 6, 1, 1, 0, 10, 0, 4, 0);
    due("leg", x.about(10), 9);
    LegBench y = new LegBench();
    y.walker(8, 2);
    yes("walker", y.undo());
    looks(y, 4, 0, 1, 0, 10, 0, 2, 1);
    rowIs(y, 15);
  }

  private static void questionsChangeNothing() {
    begin("questions");
    LegBench x = of(5, 1);
    x.leg(4, 0, 8);
    x.pace(1, 7);
    x.gait(0, 3, 0x1f0f1e, 0, 0, 0);
    for (int round = 0; round < 2; round++) {
      x.foot(0, 1, 1);
      x.stands(1);
      x.walks();
      x.why();
      x.margin(1, 0);
      x.worst(0);
      x.fastest();
      x.many(3, 1);
      x.rank(3, 1);
      x.unlike(3, 1);
      x.without(1, 3, 1);
      x.loads(3);
      x.way(31, 15, 1);
      looks(x, 5, 1, 3, 1, 7, 0, 4, 1);
      rowIs(x, 30, 15, 31);
    }
    for (int u = 0; u < 4; u++) {
      yes("undo", x.undo());
    }
    no("undo", x.undo());
  }
}
