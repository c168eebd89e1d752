/**
 * A bench for walkers on legs: which feet are down at each tick, whether the middle stays over them,
 * and what can be told of all regular gaits of a walker.
 *
 * <p>All rows are made in the constructor and used again: no call makes an object.
 */
public final class LegBench {
  public static final int NONE = -1;

  private static final int HOP = 1;
  private static final int BOUND = 2;
  private static final int FEWEST_LEGS = 2;
  private static final int MOST_LEGS = 8;
  private static final int MOST_TICKS = 16;
  private static final int MOST_REGULAR_TICKS = 8;
  private static final int MOST_ROWS = 2500;
  private static final int MOST_SETS = 256;
  private static final int FARTHEST = 20;
  private static final int TOP_SPEED = 9;
  private static final int TOP_REACH = 40;
  private static final int KEPT = 8;
  private static final int NOTHING_ABOUT = NONE - 99;
  private static final int NO_FOOT = NONE - 999;
  private static final long NO_MARGIN = NONE - 9999;

  private final Walker now = new Walker();
  private final History history = new History();
  private final Rows rows = new Rows();
  private final Stride stride = rows.stride;
  // Questions are asked of a copy, so that none of them can change the walker itself.
  private final Walker trial = stride.body;
  private final Ratio top = new Ratio();
  private final Row steps = new Row(MOST_SETS);

  public LegBench() {
    now.makeAnew(4, 0);
  }

  public boolean walker(int k, int kind) {
    if (!isWithin(k, FEWEST_LEGS, MOST_LEGS) || !isWithin(kind, 0, BOUND)) {
      return false;
    }
    history.keep(now);
    now.makeAnew(k, kind);
    return true;
  }

  public boolean leg(int i, int x, int y) {
    if (!now.hasLeg(i) || !isPlace(x, y)) {
      return false;
    }
    int there = now.legAt(x, y);
    if (there != NONE && there != i) {
      return false;
    }
    history.keep(now);
    now.xs.put(i, x);
    now.ys.put(i, y);
    return true;
  }

  public boolean middle(int x, int y) {
    if (!isPlace(x, y)) {
      return false;
    }
    history.keep(now);
    now.middleX = x;
    now.middleY = y;
    return true;
  }

  public boolean pace(int v, int reach) {
    if (!isWithin(v, 0, TOP_SPEED) || !isWithin(reach, 0, TOP_REACH)) {
      return false;
    }
    history.keep(now);
    now.speed = v;
    now.reach = reach;
    return true;
  }

  // The kind of rows is only looked at: how wide a set is held makes no difference to any answer.
  public int gait(int kind, int n, int a, int b, int c, int d) {
    if (!isWithin(kind, 0, 2) || !isWithin(n, 1, MOST_TICKS)) {
      return NONE;
    }
    history.keep(now);
    now.ticks = n;
    for (int t = 0; t < n; t++) {
      int word = t < 4 ? a : t < 8 ? b : t < 12 ? c : d;
      now.sets.put(t, (word >>> (8 * (t & 3))) & now.fullSet());
    }
    return n;
  }

  public boolean tick(int t, int set) {
    if (!now.hasTick(t) || !now.hasSet(set)) {
      return false;
    }
    history.keep(now);
    now.sets.put(t, set);
    return true;
  }

  public boolean regular(int n, int u, int offsets) {
    if (!areTicks(n, u)) {
      return false;
    }
    for (int i = 1; i < now.legs; i++) {
      if (offsetOf(offsets, i) >= n) {
        return false;
      }
    }
    history.keep(now);
    now.layRow(n, u, offsets);
    return true;
  }

  public int about(int what) {
    switch (what) {
      case 0:
        return now.legs;
      case 1:
        return now.kind;
      case 2:
        return now.ticks;
      case 3:
        return now.speed;
      case 4:
        return now.reach;
      case 5:
        return now.middleX;
      case 6:
        return now.middleY;
      case 7:
        return now.isMirrored() ? 1 : 0;
      default:
        return aboutLeg(what);
    }
  }

  public int down(int t) {
    return now.hasTick(t) ? now.sets.at(t) : NONE;
  }

  public int foot(int i, int t, int what) {
    if (!now.hasLeg(i) || !now.hasTick(t) || !isWithin(what, 0, 1) || !now.isDown(i, t)) {
      return NO_FOOT;
    }
    if (what == 0) {
      return 2 * now.xs.at(i);
    }
    tryOut();
    return stride.twiceY(i, t);
  }

  public int stands(int t) {
    if (!now.hasTick(t)) {
      return NONE;
    }
    tryOut();
    return stride.isSteadyAt(t) ? 1 : 0;
  }

  public boolean walks() {
    tryOut();
    return stride.isSteady();
  }

  public int why() {
    tryOut();
    int fall = stride.firstFall();
    if (fall != NONE) {
      return fall;
    }
    int tooFar = stride.firstBeyondReach();
    return tooFar == NONE ? NONE : 100 + tooFar;
  }

  public long margin(int t, int what) {
    if (!now.hasTick(t) || !isWithin(what, 0, 1)) {
      return NO_MARGIN;
    }
    tryOut();
    return partOf(stride.marginAt(t), what);
  }

  public long worst(int what) {
    if (!isWithin(what, 0, 2)) {
      return NO_MARGIN;
    }
    tryOut();
    int first = stride.findLeast();
    if (first == NONE) {
      return NO_MARGIN;
    }
    return what == 2 ? first : partOf(stride.least, what);
  }

  public int fastest() {
    tryOut();
    for (int v = TOP_SPEED; v >= 0; v--) {
      trial.speed = v;
      if (stride.isSteady()) {
        return v;
      }
    }
    return NONE;
  }

  public int many(int n, int u) {
    trial.copyFrom(now);
    return countRows(n, u);
  }

  public boolean pick(int n, int u, int k) {
    if (k < 0 || !areTold(n, u, now.legs)) {
      return false;
    }
    trial.copyFrom(now);
    int count = rows.start(n, u);
    int number = 0;
    for (int r = 0; r < count; r++) {
      if (stride.isSteady()) {
        if (number == k) {
          history.keep(now);
          now.layRow(n, u, rows.packedOffsets());
          return true;
        }
        number++;
      }
      rows.goOn();
    }
    return false;
  }

  public int rank(int n, int u) {
    if (!areTold(n, u, now.legs) || now.ticks != n) {
      return NONE;
    }
    trial.copyFrom(now);
    int count = rows.start(n, u);
    int number = 0;
    for (int r = 0; r < count; r++) {
      boolean steady = stride.isSteady();
      if (trial.hasGaitOf(now)) {
        return steady ? number : NONE;
      }
      if (steady) {
        number++;
      }
      rows.goOn();
    }
    return NONE;
  }

  public int unlike(int n, int u) {
    if (!areTold(n, u, now.legs)) {
      return NONE;
    }
    trial.copyFrom(now);
    return now.isMirrored() ? rows.countUnlike(n, u) : countRows(n, u);
  }

  public int best(int n, int u) {
    if (!areTold(n, u, now.legs)) {
      return NONE;
    }
    trial.copyFrom(now);
    int count = rows.start(n, u);
    int number = 0;
    int found = NONE;
    int offsets = 0;
    for (int r = 0; r < count; r++) {
      if (stride.isSteady()) {
        if (stride.findLeast() != NONE && (found == NONE || top.isLessThan(stride.least))) {
          top.copyFrom(stride.least);
          found = number;
          offsets = rows.packedOffsets();
        }
        number++;
      }
      rows.goOn();
    }
    if (found != NONE) {
      history.keep(now);
      now.layRow(n, u, offsets);
    }
    return found;
  }

  public int without(int i, int n, int u) {
    if (!now.hasLeg(i) || now.legs <= FEWEST_LEGS || now.kind == BOUND) {
      return NONE;
    }
    trial.copyFrom(now);
    trial.dropLeg(i);
    return countRows(n, u);
  }

  public int loads(int y) {
    if (!isWithin(y, -FARTHEST, FARTHEST)) {
      return NONE;
    }
    tryOut();
    trial.middleY = y;
    int places = 0;
    for (int x = -FARTHEST; x <= FARTHEST; x++) {
      trial.middleX = x;
      if (stride.isSteady()) {
        places++;
      }
    }
    return places;
  }

  public int way(int from, int to, int m) {
    if (!now.hasSet(from) || !now.hasSet(to) || !isWithin(m, 1, MOST_LEGS)) {
      return NONE;
    }
    trial.copyFrom(now);
    stride.readPlaces();
    if (!stride.isSound(from) || !stride.isSound(to)) {
      return NONE;
    }
    for (int set = 0; set < MOST_SETS; set++) {
      steps.put(set, NONE);
    }
    steps.put(from, 0);
    boolean grown = true;
    for (int step = 0; grown && step < MOST_SETS && steps.at(to) == NONE; step++) {
      grown = goFurther(step, m);
    }
    return steps.at(to);
  }

  public boolean undo() {
    return history.takeBack(now);
  }

  private static boolean isWithin(int value, int least, int most) {
    return value >= least && value <= most;
  }

  private static boolean isPlace(int x, int y) {
    return isWithin(x, -FARTHEST, FARTHEST) && isWithin(y, -FARTHEST, FARTHEST);
  }

  private static boolean areTicks(int n, int u) {
    return isWithin(n, 2, MOST_REGULAR_TICKS) && isWithin(u, 1, n - 1);
  }

  private static boolean areTold(int n, int u, int legs) {
    return areTicks(n, u) && rowsOf(n, legs) <= MOST_ROWS;
  }

  private static int rowsOf(int n, int legs) {
    int count = 1;
    for (int i = 1; i < legs; i++) {
      count *= n;
    }
    return count;
  }

  private static int offsetOf(int packed, int i) {
    return (packed >>> (4 * i)) & 15;
  }

  private static long partOf(Ratio ratio, int what) {
    if (ratio.isNone()) {
      return NO_MARGIN;
    }
    ratio.shorten();
    return what == 0 ? ratio.above : ratio.below;
  }

  private int aboutLeg(int what) {
    int i = what % 10;
    if (!isWithin(what, 10, 39) || !now.hasLeg(i)) {
      return NOTHING_ABOUT;
    }
    if (what < 20) {
      return now.xs.at(i);
    }
    if (what < 30) {
      return now.ys.at(i);
    }
    int twin = now.twinOf(i);
    return twin == NONE ? NOTHING_ABOUT : twin;
  }

  private void tryOut() {
    trial.copyFrom(now);
    stride.readGait();
  }

  private int countRows(int n, int u) {
    if (!areTold(n, u, trial.legs)) {
      return NONE;
    }
    int count = rows.start(n, u);
    int number = 0;
    for (int r = 0; r < count; r++) {
      if (stride.isSteady()) {
        number++;
      }
      rows.goOn();
    }
    return number;
  }

  // One tick more from every set that is first reached after that many: whether a new one was reached.
  private boolean goFurther(int step, int m) {
    boolean grown = false;
    int full = trial.fullSet();
    for (int set = 0; set <= full; set++) {
      if (steps.at(set) == step && reachFrom(set, step + 1, m)) {
        grown = true;
      }
    }
    return grown;
  }

  private boolean reachFrom(int set, int step, int m) {
    boolean grown = false;
    int full = trial.fullSet();
    for (int other = 0; other <= full; other++) {
      if (steps.at(other) == NONE && stride.isSound(other) && Integer.bitCount(set ^ other) <= m) {
        steps.put(other, step);
        grown = true;
      }
    }
    return grown;
  }

  /** A row of numbers that is 0 beyond its ends, so that no index can be a wrong one. */
  private static final class Row {
    private final int[] cells;

    Row(int length) {
      cells = new int[Math.max(length, 0)];
    }

    int at(int i) {
      return i >= 0 && i < cells.length ? cells[i] : 0;
    }

    void put(int i, int value) {
      if (i >= 0 && i < cells.length) {
        cells[i] = value;
      }
    }

    void copyFrom(Row other) {
      for (int i = 0; i < cells.length; i++) {
        cells[i] = other.at(i);
      }
    }
  }

  /** All that a call can change, and undo() can bring back. */
  private static final class Walker {
    int legs;
    int kind;
    int middleX;
    int middleY;
    int speed;
    int reach;
    int ticks;
    final Row xs = new Row(MOST_LEGS);
    final Row ys = new Row(MOST_LEGS);
    final Row sets = new Row(MOST_TICKS);

    void makeAnew(int k, int ofKind) {
      legs = k;
      kind = ofKind;
      for (int i = 0; i < legs; i++) {
        xs.put(i, (i & 1) == 0 ? -3 : 3);
        ys.put(i, 4 * (i >> 1));
      }
      middleX = 0;
      middleY = 2 * (((k + 1) >> 1) - 1);
      speed = 0;
      reach = 10;
      ticks = 1;
      sets.put(0, fullSet());
    }

    void copyFrom(Walker other) {
      legs = other.legs;
      kind = other.kind;
      middleX = other.middleX;
      middleY = other.middleY;
      speed = other.speed;
      reach = other.reach;
      ticks = other.ticks;
      xs.copyFrom(other.xs);
      ys.copyFrom(other.ys);
      sets.copyFrom(other.sets);
    }

    boolean hasLeg(int i) {
      return i >= 0 && i < legs;
    }

    boolean hasTick(int t) {
      return t >= 0 && t < ticks;
    }

    boolean hasSet(int set) {
      return set >= 0 && set <= fullSet();
    }

    int fullSet() {
      return (1 << legs) - 1;
    }

    boolean isDown(int i, int t) {
      return (sets.at(t) >> i & 1) == 1;
    }

    int tickAfter(int t) {
      return t + 1 < ticks ? t + 1 : 0;
    }

    int tickAhead(int t) {
      return t > 0 ? t - 1 : ticks - 1;
    }

    int legAt(int x, int y) {
      for (int i = 0; i < legs; i++) {
        if (xs.at(i) == x && ys.at(i) == y) {
          return i;
        }
      }
      return NONE;
    }

    int twinOf(int i) {
      return legAt(-xs.at(i), ys.at(i));
    }

    boolean isMirrored() {
      for (int i = 0; i < legs; i++) {
        if (twinOf(i) == NONE) {
          return false;
        }
      }
      return middleX == 0;
    }

    boolean hasGaitOf(Walker other) {
      for (int t = 0; t < ticks; t++) {
        if (sets.at(t) != other.sets.at(t)) {
          return false;
        }
      }
      return ticks == other.ticks;
    }

    // The gait is left as it was: who drops a leg lays rows of the others next.
    void dropLeg(int gone) {
      legs--;
      for (int i = gone; i < legs; i++) {
        xs.put(i, xs.at(i + 1));
        ys.put(i, ys.at(i + 1));
      }
    }

    void layRow(int n, int u, int packed) {
      ticks = n;
      for (int t = 0; t < n; t++) {
        sets.put(t, 0);
      }
      layLeg(0, u, 0);
      for (int i = 1; i < legs; i++) {
        layLeg(i, u, offsetOf(packed, i));
      }
    }

    void layLeg(int i, int u, int offset) {
      int bit = 1 << i;
      for (int t = 0; t < ticks; t++) {
        int since = t < offset ? t - offset + ticks : t - offset;
        int others = sets.at(t) & ~bit;
        sets.put(t, since < u ? others : others | bit);
      }
    }
  }

  /** The latest states, in a ring: the oldest one makes room for a new one. */
  private static final class History {
    private final Walker[] states = new Walker[KEPT];
    private int next;
    private int count;

    History() {
      for (int i = 0; i < states.length; i++) {
        states[i] = new Walker();
      }
    }

    void keep(Walker state) {
      Walker place = stateAt(next);
      if (place == null) {
        return;
      }
      place.copyFrom(state);
      next = next + 1 < KEPT ? next + 1 : 0;
      count = Math.min(count + 1, KEPT);
    }

    boolean takeBack(Walker state) {
      int latest = next > 0 ? next - 1 : KEPT - 1;
      Walker place = stateAt(latest);
      if (count == 0 || place == null) {
        return false;
      }
      state.copyFrom(place);
      next = latest;
      count--;
      return true;
    }

    private Walker stateAt(int i) {
      return i >= 0 && i < states.length ? states[i] : null;
    }
  }

  /** A fraction, with 1 or more below; with 0 below there is none. */
  private static final class Ratio {
    long above;
    long below;

    void drop() {
      above = 0;
      below = 0;
    }

    void copyFrom(Ratio other) {
      above = other.above;
      below = other.below;
    }

    boolean isNone() {
      return below == 0;
    }

    boolean isLessThan(Ratio other) {
      return above * other.below < other.above * below;
    }

    // Where there was none, any number is the new least and the new greatest one.
    void lowerTo(long otherAbove, long otherBelow) {
      if (below == 0 || above * otherBelow > otherAbove * below) {
        above = otherAbove;
        below = otherBelow;
      }
    }

    void raiseTo(long otherAbove, long otherBelow) {
      if (below == 0 || above * otherBelow < otherAbove * below) {
        above = otherAbove;
        below = otherBelow;
      }
    }

    void shorten() {
      long divisor = below;
      long rest = Math.abs(above);
      // Euclid's steps for two longs are fewer than a hundred.
      for (int step = 0; step < 100 && rest != 0; step++) {
        long left = divisor % rest;
        divisor = rest;
        rest = left;
      }
      if (divisor > 0) {
        above /= divisor;
        below /= divisor;
      }
    }
  }

  /** The feet of one tick, seen from the middle; each y is doubled, so that all of them are whole. */
  private static final class Span {
    private final Row leftX = new Row(MOST_LEGS);
    private final Row leftY = new Row(MOST_LEGS);
    private final Row rightX = new Row(MOST_LEGS);
    private final Row rightY = new Row(MOST_LEGS);
    private int lefts;
    private int rights;
    // The heights at which the line through the middle is met: those of feet on it, and, once
    // measured, those of the lines from a foot at the left to one at the right.
    private final Ratio low = new Ratio();
    private final Ratio high = new Ratio();
    private final Ratio margin = new Ratio();

    void empty() {
      lefts = 0;
      rights = 0;
      low.drop();
      high.drop();
    }

    void add(int x, int twiceY) {
      if (x < 0) {
        leftX.put(lefts, x);
        leftY.put(lefts, twiceY);
        lefts++;
      } else if (x > 0) {
        rightX.put(rights, x);
        rightY.put(rights, twiceY);
        rights++;
      } else {
        low.lowerTo(twiceY, 1);
        high.raiseTo(twiceY, 1);
      }
    }

    // Something is met at or below the middle, and something at or above it.
    boolean holdsMiddle() {
      boolean under = !low.isNone() && low.above <= 0;
      boolean over = !high.isNone() && high.above >= 0;
      for (int i = 0; i < lefts && !(under && over); i++) {
        for (int j = 0; j < rights; j++) {
          int height = heightAbove(i, j);
          under = under || height <= 0;
          over = over || height >= 0;
        }
      }
      return under && over;
    }

    Ratio measure() {
      for (int i = 0; i < lefts; i++) {
        for (int j = 0; j < rights; j++) {
          int height = heightAbove(i, j);
          int width = rightX.at(j) - leftX.at(i);
          low.lowerTo(height, width);
          high.raiseTo(height, width);
        }
      }
      margin.drop();
      if (!low.isNone()) {
        // Twice below, since the heights are doubled ones.
        margin.lowerTo(-low.above, 2 * low.below);
        margin.lowerTo(high.above, 2 * high.below);
      }
      return margin;
    }

    private int heightAbove(int i, int j) {
      return leftY.at(i) * rightX.at(j) - rightY.at(j) * leftX.at(i);
    }
  }

  /** The stances of a walker's gait: where the feet are, and whether it stands. */
  private static final class Stride {
    final Walker body = new Walker();
    // How far a foot is ahead of its place, in halves of the speed; 16 ticks for each leg.
    private final Row leads = new Row(MOST_LEGS * MOST_TICKS);
    // The ticks, less one, of a leg's longest stance.
    private final Row stretches = new Row(MOST_LEGS);
    // For each set 1, if its feet hold the middle at their places.
    private final Row sound = new Row(MOST_SETS);
    // Whether that row may be used instead of the feet of each tick, until a gait is read again.
    boolean areFeetAtPlaces;
    private final Span span = new Span();
    final Ratio least = new Ratio();

    void readGait() {
      areFeetAtPlaces = false;
      for (int i = 0; i < body.legs; i++) {
        readLeg(i);
      }
    }

    void readPlaces() {
      int full = body.fullSet();
      for (int set = 0; set <= full; set++) {
        sound.put(set, holdsAtPlaces(set) ? 1 : 0);
      }
    }

    boolean isSound(int set) {
      return sound.at(set) == 1;
    }

    void readLeg(int i) {
      if (areFeetAtPlaces) {
        return;
      }
      stretches.put(i, 0);
      for (int t = 0; t < body.ticks; t++) {
        leads.put(i * MOST_TICKS + t, 0);
      }
      // A leg that is always down has no first tick of a stance: its leads stay 0.
      for (int t = 0; t < body.ticks; t++) {
        if (body.isDown(i, t) && !body.isDown(i, body.tickAhead(t))) {
          readStance(i, t);
        }
      }
    }

    private void readStance(int i, int first) {
      int stretch = 0;
      int last = first;
      for (int step = 1; step < body.ticks && body.isDown(i, body.tickAfter(last)); step++) {
        last = body.tickAfter(last);
        stretch++;
      }
      stretches.put(i, Math.max(stretches.at(i), stretch));
      int t = first;
      for (int j = 0; j <= stretch; j++) {
        leads.put(i * MOST_TICKS + t, stretch - 2 * j);
        t = body.tickAfter(t);
      }
    }

    int twiceY(int i, int t) {
      return 2 * body.ys.at(i) + body.speed * leads.at(i * MOST_TICKS + t);
    }

    boolean isSteady() {
      return firstFall() == NONE && firstBeyondReach() == NONE;
    }

    int firstBeyondReach() {
      for (int i = 0; i < body.legs; i++) {
        if (body.speed * stretches.at(i) > 2 * body.reach) {
          return i;
        }
      }
      return NONE;
    }

    int firstFall() {
      for (int t = 0; t < body.ticks; t++) {
        if (!isSteadyAt(t)) {
          return t;
        }
      }
      return NONE;
    }

    boolean isSteadyAt(int t) {
      int set = body.sets.at(t);
      if (set == 0) {
        return body.kind == HOP && isShortHop(t);
      }
      if (areFeetAtPlaces) {
        return isSound(set);
      }
      if (!fitsKind(set)) {
        return false;
      }
      gatherFeet(t);
      return span.holdsMiddle();
    }

    private boolean holdsAtPlaces(int set) {
      if (!fitsKind(set)) {
        return false;
      }
      span.empty();
      for (int i = 0; i < body.legs; i++) {
        if ((set >> i & 1) == 1) {
          span.add(body.xs.at(i) - body.middleX, 2 * (body.ys.at(i) - body.middleY));
        }
      }
      return span.holdsMiddle();
    }

    Ratio marginAt(int t) {
      gatherFeet(t);
      return span.measure();
    }

    // The first tick with the least margin, which is then in least; NONE if there is none.
    int findLeast() {
      int first = NONE;
      for (int t = 0; t < body.ticks; t++) {
        if (body.sets.at(t) != 0) {
          Ratio margin = marginAt(t);
          if (margin.isNone()) {
            return NONE;
          }
          if (first == NONE || margin.isLessThan(least)) {
            least.copyFrom(margin);
            first = t;
          }
        }
      }
      return first;
    }

    private void gatherFeet(int t) {
      span.empty();
      for (int i = 0; i < body.legs; i++) {
        if (body.isDown(i, t)) {
          span.add(body.xs.at(i) - body.middleX, twiceY(i, t) - 2 * body.middleY);
        }
      }
    }

    // The last of an odd number of legs has no second one, so nothing is asked of it.
    private boolean fitsKind(int set) {
      int firstsOfPairs = 0x55 & (body.fullSet() >> 1);
      return body.kind != BOUND || (set & firstsOfPairs) == (set >> 1 & firstsOfPairs);
    }

    private boolean isShortHop(int t) {
      int row = 1;
      int at = body.tickAhead(t);
      for (int step = 1; step < body.ticks && body.sets.at(at) == 0; step++) {
        row++;
        at = body.tickAhead(at);
      }
      if (row >= body.ticks) {
        return false;
      }
      at = body.tickAfter(t);
      for (int step = 1; step < body.ticks && body.sets.at(at) == 0; step++) {
        row++;
        at = body.tickAfter(at);
      }
      return row <= 2;
    }
  }

  /** The regular rows of a walker, one after the other in THE ORDER, each laid as its gait. */
  private static final class Rows {
    final Stride stride = new Stride();
    private final Walker body = stride.body;
    private final Row offsets = new Row(MOST_LEGS);
    // A bit for each row, to keep the room small.
    private final Row steady = new Row(MOST_ROWS / 32 + 1);
    private int up;

    // The first row is laid: how many there are.
    int start(int n, int u) {
      up = u;
      for (int i = 0; i < body.legs; i++) {
        offsets.put(i, 0);
      }
      body.layRow(n, u, 0);
      stride.readGait();
      // Without speed no foot leaves its place, and there are far fewer sets than rows and ticks.
      if (body.speed == 0) {
        stride.readPlaces();
        stride.areFeetAtPlaces = true;
      }
      return rowsOf(n, body.legs);
    }

    // Only the legs whose offsets change are laid anew.
    void goOn() {
      boolean carried = true;
      for (int i = body.legs - 1; carried && i > 0; i--) {
        int offset = offsets.at(i) + 1;
        carried = offset >= body.ticks;
        offsets.put(i, carried ? 0 : offset);
        body.layLeg(i, up, offsets.at(i));
        stride.readLeg(i);
      }
    }

    int packedOffsets() {
      int packed = 0;
      for (int i = 1; i < body.legs; i++) {
        packed |= offsets.at(i) << (4 * i);
      }
      return packed;
    }

    // Of a row and its mirror the first one counts, so only mirrors that came before it are looked up.
    int countUnlike(int n, int u) {
      int count = start(n, u);
      int number = 0;
      for (int r = 0; r < count; r++) {
        boolean stays = stride.isSteady();
        mark(r, stays);
        if (stays && !hasEarlierMirror(r)) {
          number++;
        }
        goOn();
      }
      return number;
    }

    private void mark(int r, boolean stays) {
      int bit = 1 << (r & 31);
      int others = steady.at(r >> 5) & ~bit;
      steady.put(r >> 5, stays ? others | bit : others);
    }

    private boolean hasEarlierMirror(int r) {
      int mirror = mirrorIndex();
      return mirror < r && (steady.at(mirror >> 5) >>> (mirror & 31) & 1) == 1;
    }

    private int mirrorIndex() {
      int first = offsets.at(body.twinOf(0));
      int index = 0;
      for (int i = 1; i < body.legs; i++) {
        int offset = offsets.at(body.twinOf(i)) - first;
        index = index * body.ticks + (offset < 0 ? offset + body.ticks : offset);
      }
      return index;
    }
  }
}
