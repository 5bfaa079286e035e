import java.util.Arrays;

/**
 * A dye works: baths are made of other baths that must stand in vats at that time; the fewest vats
 * and the fewest makings for what is wanted are told, with the first best plan, and rows of bits
 * that prove that so many vats never do.
 *
 * <p>How baths stand is held as one number, a scene: bits 0 to 8 are the baths that stand, bits 9 to
 * 11 the goals that have stood, and from bit 12 on comes 1 and the frail bath that fills 2 vats, or 0.
 * One such bath is enough: each making leaves at most the frail one that it made filling 2. Without
 * frail baths a scene is just the number of its bit of the row.
 */
public final class DyeVats {
  private static final int MOST_BATHS = 9;
  private static final int MOST_PLACES = 4;
  private static final int MOST_GOALS = 3;
  private static final int MOST_VATS = 18;
  private static final int VATS_AT_FIRST = 4;
  private static final int MOST_TAKEN_BACK = 100;
  private static final int TYPES = 3;

  private static final int SPENT = 1;
  private static final int DOUBLE = 2;
  private static final int STRONG = 3;
  private static final int FRAIL = 4;
  private static final int[] WORTH = {1, 3, 2, 4, 3};

  private static final int NONE = -1;
  private static final int REFUSED = -2;
  private static final int WOULD_RING = -3;
  private static final int NO_RECIPE = -10;
  private static final int NO_PLACE = -11;
  private static final int OTHER_TYPE = -12;
  private static final int BAD_SIZE = -13;

  private static final int ALL_BATHS = 511;
  private static final int STOOD_SHIFT = 9;
  private static final int STOOD_BITS = 7 << STOOD_SHIFT;
  private static final int FRESH_SHIFT = 12;
  private static final int ROW_BITS = 4096;
  private static final int ALL_SCENES = ROW_BITS * (MOST_BATHS + 1);

  private final Recipes recipes = new Recipes();
  private final Rules rules = new Rules();
  private final RingFinder rings = new RingFinder();
  private final History history = new History();
  private final Planner planner = new Planner(rules);
  private final Proof proof = new Proof(rules, planner);
  private final int[] timesMade = new int[MOST_BATHS];
  private int vatCount = VATS_AT_FIRST;
  private int scene = 0;

  public DyeVats() {
  }

  public int vats(int n) {
    if (!isVatCount(n) || n < rules.filled(scene)) {
      return REFUSED;
    }
    int before = vatCount;
    vatCount = n;
    history.clear();
    return before;
  }

  public int bath(int kind) {
    if (kind < 0 || kind >= WORTH.length || rules.baths >= MOST_BATHS) {
      return REFUSED;
    }
    planner.outdate();
    return rules.addBath(kind);
  }

  public int recipe(int b, int type, int n) {
    if (!rules.isBath(b) || !isType(type) || anyStands() || n > MOST_PLACES) {
      return REFUSED;
    }
    if (n < 0) {
      return BAD_SIZE;
    }
    recipes.begin(b, type, n);
    recipeChanged(b);
    return n;
  }

  public int lose(int b) {
    if (!rules.isBath(b) || anyStands()) {
      return REFUSED;
    }
    int had = recipes.has(b) ? 1 : 0;
    recipes.drop(b);
    recipeChanged(b);
    return had;
  }

  public int need(int b, int i, int other) {
    if (!rules.isBath(b) || other != NONE && !rules.isBath(other) || anyStands()) {
      return REFUSED;
    }
    if (!recipes.has(b)) {
      return NO_RECIPE;
    }
    if (!recipes.hasPlace(b, i)) {
      return NO_PLACE;
    }
    if (other != NONE && rings.closes(rules.needs, b, other)) {
      return WOULD_RING;
    }
    int before = recipes.nameAt(b, i);
    recipes.setName(b, i, other);
    recipeChanged(b);
    return before;
  }

  public int named(int b, int type, int i) {
    if (!rules.isBath(b) || !isType(type)) {
      return REFUSED;
    }
    if (!recipes.has(b)) {
      return NO_RECIPE;
    }
    if (recipes.types[b] != type) {
      return OTHER_TYPE;
    }
    return recipes.hasPlace(b, i) ? recipes.nameAt(b, i) : NO_PLACE;
  }

  public int ring(int k) {
    return k < 0 || k >= rings.length ? NONE : rings.baths[k];
  }

  public int order(int k) {
    if (!rules.isBath(k)) {
      return NONE;
    }
    int told = 0;
    int latest = NONE;
    for (int i = 0; i <= k; i++) {
      latest = rules.nextTold(told);
      if (latest == NONE) {
        return NONE;
      }
      told |= 1 << latest;
    }
    return latest;
  }

  public int goal(int b) {
    if (!rules.isBath(b) || rules.isGoal(b) || rules.goalCount >= MOST_GOALS) {
      return REFUSED;
    }
    planner.outdate();
    return rules.addGoal(b);
  }

  public int forget() {
    int before = rules.goalCount;
    rules.dropGoals();
    planner.outdate();
    return before;
  }

  public int together(boolean is) {
    int before = rules.allAtOnce ? 1 : 0;
    rules.allAtOnce = is;
    planner.outdate();
    return before;
  }

  public int make(int b) {
    if (!rules.isBath(b) || rules.hindrance(b, scene, vatCount) != 0) {
      return REFUSED;
    }
    history.keep(scene, b);
    timesMade[b]++;
    scene = rules.whenMade(b, scene);
    return freeVats();
  }

  public int why(int b) {
    return rules.isBath(b) ? rules.hindrance(b, scene, vatCount) : REFUSED;
  }

  public int pour(int b) {
    if (!rules.isBath(b) || !Rules.stands(b, scene)) {
      return REFUSED;
    }
    history.keep(scene, NONE);
    scene = Rules.whenPoured(b, scene);
    return freeVats();
  }

  public int undo() {
    if (history.size == 0) {
      return REFUSED;
    }
    history.stepBack();
    int b = history.madeThere();
    if (b != NONE) {
      timesMade[b]--;
    }
    scene = history.sceneThere();
    return history.size;
  }

  public int of(int b, int what) {
    if (!rules.isBath(b)) {
      return REFUSED;
    }
    switch (what) {
      case 0:
        return rules.kinds[b];
      case 1:
        return Rules.stands(b, scene) ? 1 : 0;
      case 2:
        return rules.filledBy(scene & 1 << b, scene);
      case 3:
        return recipes.sizes[b];
      case 4:
        return recipes.types[b];
      case 5:
        return timesMade[b];
      case 6:
        return WORTH[rules.kinds[b]];
      default:
        return REFUSED;
    }
  }

  public int count(int what) {
    switch (what) {
      case 0:
        return rules.baths;
      case 1:
        return Integer.bitCount(scene & ALL_BATHS);
      case 2:
        return vatCount;
      case 3:
        return freeVats();
      case 4:
        return rules.goalCount;
      case 5:
        return history.size;
      case 6:
        return proof.ones;
      default:
        return REFUSED;
    }
  }

  public int least() {
    // A plan for some vats is one for more, so the most tell whether there is any.
    if (planner.makesFor(MOST_VATS) == NONE) {
      return NONE;
    }
    for (int v = 1; v < MOST_VATS; v++) {
      if (planner.makesFor(v) != NONE) {
        return v;
      }
    }
    return MOST_VATS;
  }

  public int fewest(int v) {
    return isVatCount(v) ? planner.makesFor(v) : REFUSED;
  }

  public int plan(int v, int k) {
    if (!isVatCount(v) || k < -1) {
      return REFUSED;
    }
    int acts = planner.actsFor(v);
    if (k == -1) {
      return acts;
    }
    return k < acts ? planner.actAt(k) : NONE;
  }

  public int reach(int v) {
    return isVatCount(v) ? planner.scenesFor(v) : REFUSED;
  }

  public int row(int v) {
    return isVatCount(v) && rules.allFillOne() ? proof.build(v) : REFUSED;
  }

  public int bit(int k) {
    return isRowBit(k) ? proof.bits[k] : REFUSED;
  }

  public int flip(int k) {
    return isRowBit(k) ? proof.turn(k) : REFUSED;
  }

  public int check(int v) {
    return isVatCount(v) && rules.allFillOne() ? proof.examine(v) : REFUSED;
  }

  public int where() {
    return proof.faultAt;
  }

  private static boolean isVatCount(int n) {
    return n >= 1 && n <= MOST_VATS;
  }

  private static boolean isType(int type) {
    return type >= 0 && type < TYPES;
  }

  private static boolean isRowBit(int k) {
    return k >= 0 && k < ROW_BITS;
  }

  private boolean anyStands() {
    return (scene & ALL_BATHS) != 0;
  }

  private int freeVats() {
    return vatCount - rules.filled(scene);
  }

  private void recipeChanged(int b) {
    rules.learn(b, recipes);
    history.clear();
    planner.outdate();
  }

  /** The rows of places. All are held alike: a row's type shows only where it is asked for. */
  private static final class Recipes {
    final int[] sizes = new int[MOST_BATHS];
    final int[] types = new int[MOST_BATHS];
    private final int[] names = new int[MOST_BATHS * MOST_PLACES];

    Recipes() {
      Arrays.fill(sizes, NONE);
      Arrays.fill(types, NONE);
    }

    void begin(int b, int type, int n) {
      sizes[b] = n;
      types[b] = type;
      for (int i = 0; i < MOST_PLACES; i++) {
        setName(b, i, NONE);
      }
    }

    void drop(int b) {
      sizes[b] = NONE;
      types[b] = NONE;
    }

    boolean has(int b) {
      return sizes[b] != NONE;
    }

    boolean hasPlace(int b, int i) {
      return i >= 0 && i < sizes[b];
    }

    int nameAt(int b, int i) {
      return names[b * MOST_PLACES + i];
    }

    void setName(int b, int i, int other) {
      names[b * MOST_PLACES + i] = other;
    }

    int namedBits(int b) {
      int bits = 0;
      for (int i = 0; i < sizes[b]; i++) {
        bits |= bitOf(nameAt(b, i));
      }
      return bits;
    }

    int firstNamedBit(int b) {
      for (int i = 0; i < sizes[b]; i++) {
        if (nameAt(b, i) != NONE) {
          return bitOf(nameAt(b, i));
        }
      }
      return 0;
    }

    private static int bitOf(int name) {
      return name == NONE ? 0 : 1 << name;
    }
  }

  /** What can be done in a scene and where it leads; rows of baths are bits, to be asked at once. */
  private static final class Rules {
    int baths = 0;
    final int[] kinds = new int[MOST_BATHS];
    final int[] needs = new int[MOST_BATHS];
    private final int[] usedUp = new int[MOST_BATHS];
    private int withRecipe = 0;
    private int strongOnes = 0;
    private int doubleOnes = 0;
    private int frailOnes = 0;
    int goalCount = 0;
    private final int[] goals = new int[MOST_GOALS];
    private int goalBits = 0;
    boolean allAtOnce = false;

    boolean isBath(int b) {
      return b >= 0 && b < baths;
    }

    boolean isGoal(int b) {
      return (goalBits >> b & 1) == 1;
    }

    int addBath(int kind) {
      int b = baths++;
      kinds[b] = kind;
      strongOnes |= kind == STRONG ? 1 << b : 0;
      doubleOnes |= kind == DOUBLE ? 1 << b : 0;
      frailOnes |= kind == FRAIL ? 1 << b : 0;
      return b;
    }

    int addGoal(int b) {
      goals[goalCount++] = b;
      goalBits |= 1 << b;
      return goalCount;
    }

    void dropGoals() {
      goalCount = 0;
      goalBits = 0;
    }

    void learn(int b, Recipes recipes) {
      withRecipe = recipes.has(b) ? withRecipe | 1 << b : withRecipe & ~(1 << b);
      needs[b] = recipes.namedBits(b);
      boolean uses = kinds[b] == SPENT || kinds[b] == STRONG;
      usedUp[b] = uses ? recipes.firstNamedBit(b) : 0;
    }

    boolean hasFrail() {
      return frailOnes != 0;
    }

    boolean allFillOne() {
      return (doubleOnes | frailOnes) == 0;
    }

    int nextTold(int told) {
      for (int b = 0; b < baths; b++) {
        boolean open = (withRecipe & ~told & 1 << b) != 0;
        if (open && (needs[b] & ~told) == 0) {
          return b;
        }
      }
      return NONE;
    }

    static boolean stands(int b, int scene) {
      return (scene & 1 << b) != 0;
    }

    int filled(int scene) {
      return filledBy(scene & ALL_BATHS, scene);
    }

    /** How many vats those of some baths fill, all of which stand in the scene. */
    int filledBy(int some, int scene) {
      int fillTwo = doubleOnes | freshBit(scene);
      return Integer.bitCount(some) + Integer.bitCount(some & fillTwo);
    }

    private static int freshBit(int scene) {
      return 1 << (scene >> FRESH_SHIFT) >> 1;
    }

    int hindrance(int b, int scene, int v) {
      int standing = scene & ALL_BATHS;
      int self = 1 << b;
      if ((withRecipe & self) == 0) {
        return 1;
      }
      if ((standing & self) != 0) {
        return 2;
      }
      if ((needs[b] & ~standing) != 0) {
        return 3;
      }
      int staying = standing & ~usedUp[b];
      if ((strongOnes & self) != 0 && (strongOnes & staying) != 0) {
        return 4;
      }
      int fills = ((doubleOnes | frailOnes) & self) != 0 ? 2 : 1;
      return v - filledBy(staying, scene) < fills ? 5 : 0;
    }

    int whenMade(int b, int scene) {
      int kept = scene & ~usedUp[b] & (ROW_BITS - 1);
      int fresh = kinds[b] == FRAIL ? b + 1 : 0;
      return kept | 1 << b | fresh << FRESH_SHIFT;
    }

    static int whenPoured(int b, int scene) {
      int left = scene & ~(1 << b);
      return freshBit(scene) == 1 << b ? left & (ROW_BITS - 1) : left;
    }

    /** Where an act leads, or NONE if it can't be done. */
    int lead(int scene, int act, int v) {
      if (act < MOST_BATHS) {
        return hindrance(act, scene, v) == 0 ? withStood(whenMade(act, scene)) : NONE;
      }
      int b = act - MOST_BATHS;
      return stands(b, scene) ? withStood(whenPoured(b, scene)) : NONE;
    }

    private int withStood(int scene) {
      if (allAtOnce || (scene & goalBits) == 0) {
        return scene;
      }
      int told = scene;
      for (int i = 0; i < goalCount; i++) {
        if (stands(goals[i], scene)) {
          told |= 1 << (STOOD_SHIFT + i);
        }
      }
      return told;
    }

    boolean reaches(int scene) {
      int wanted = allAtOnce ? goalBits : ((1 << goalCount) - 1) << STOOD_SHIFT;
      return (scene & wanted) == wanted;
    }

    /** Whether a scene is of baths and goals that there are. */
    boolean known(int scene) {
      int standing = scene & ALL_BATHS;
      int stood = scene >> STOOD_SHIFT;
      return standing >> baths == 0 && stood >> (allAtOnce ? 0 : goalCount) == 0;
    }
  }

  /** Tells whether one more need closes a ring, and keeps the latest ring that one would have. */
  private static final class RingFinder {
    final int[] baths = new int[MOST_BATHS];
    int length = 0;
    private final int[] away = new int[MOST_BATHS];

    boolean closes(int[] needs, int b, int other) {
      measure(needs, b);
      if (away[other] == NONE) {
        return false;
      }
      baths[0] = b;
      length = 1;
      int at = other;
      for (int i = 1; i < MOST_BATHS && at != b; i++) {
        baths[i] = at;
        length++;
        at = nearer(needs[at], away[at] - 1, b);
      }
      return true;
    }

    /** How many needs lead from each bath to b: none passes b, so b's own needs don't matter. */
    private void measure(int[] needs, int b) {
      Arrays.fill(away, NONE);
      away[b] = 0;
      int front = 1 << b;
      for (int far = 1; far < MOST_BATHS; far++) {
        int found = 0;
        for (int x = 0; x < MOST_BATHS; x++) {
          if (away[x] == NONE && (needs[x] & front) != 0) {
            away[x] = far;
            found |= 1 << x;
          }
        }
        front = found;
      }
    }

    private int nearer(int needed, int far, int b) {
      for (int x = 0; x < MOST_BATHS; x++) {
        if ((needed >> x & 1) == 1 && away[x] == far) {
          return x;
        }
      }
      return b;
    }
  }

  /** The scenes ahead of the latest acts, in a circle: the oldest gives way to the newest. */
  private static final class History {
    int size = 0;
    private int next = 0;
    private final int[] scenes = new int[MOST_TAKEN_BACK];
    private final int[] made = new int[MOST_TAKEN_BACK];

    void clear() {
      size = 0;
    }

    void keep(int scene, int b) {
      scenes[next] = scene;
      made[next] = b;
      next = next + 1 < MOST_TAKEN_BACK ? next + 1 : 0;
      size = Math.min(size + 1, MOST_TAKEN_BACK);
    }

    void stepBack() {
      next = next > 0 ? next - 1 : MOST_TAKEN_BACK - 1;
      size = Math.max(size - 1, 0);
    }

    int sceneThere() {
      return scenes[next];
    }

    int madeThere() {
      return made[next];
    }
  }

  /**
   * Looks for best plans. A plan's cost is one number, its makes above its acts, so that the lesser
   * cost is the better plan. What was found is kept till a rule or a goal changes.
   */
  private static final class Planner {
    private static final int ACTS_MASK = 65535;
    private static final int MAKES_SHIFT = 16;
    private static final int POUR_COST = 1;
    private static final int MAKE_COST = 1 + (1 << MAKES_SHIFT);
    private static final int FAR = 2147483647;
    private static final int UNKNOWN = -9;

    private final Rules rules;
    private final int[] makes = new int[MOST_VATS + 1];
    private final int[] ways = new int[MOST_VATS + 1];
    private int[] cost = new int[ROW_BITS];
    private int[] line = new int[ROW_BITS];
    private int lineEnd = 0;
    private int best = NONE;
    private int exploredFor = NONE;
    private int plannedFor = NONE;

    Planner(Rules rules) {
      this.rules = rules;
      Arrays.fill(makes, UNKNOWN);
      Arrays.fill(ways, UNKNOWN);
    }

    void outdate() {
      Arrays.fill(makes, UNKNOWN);
      Arrays.fill(ways, UNKNOWN);
      exploredFor = NONE;
      plannedFor = NONE;
    }

    int makesFor(int v) {
      if (makes[v] == UNKNOWN) {
        explore(v);
      }
      return makes[v];
    }

    int actsFor(int v) {
      if (plannedFor != v) {
        if (exploredFor != v) {
          explore(v);
        }
        if (best != NONE) {
          dropDetours(v);
          writePlan(v);
        }
        exploredFor = NONE;
        plannedFor = v;
      }
      return best == NONE ? NONE : best & ACTS_MASK;
    }

    /** An act of the plan for which actsFor was asked latest. */
    int actAt(int k) {
      return k >= 0 && k < line.length ? line[k] : NONE;
    }

    /** How many scenes can be come to with v vats, goals aside. */
    int scenesFor(int v) {
      if (ways[v] == UNKNOWN) {
        ways[v] = flood(v, ~STOOD_BITS);
      }
      return ways[v];
    }

    /** Puts each scene into the line that can be come to, the bits of the mask alone: how many. */
    int flood(int v, int mask) {
      startLine();
      for (int at = 0; at < line.length && at < lineEnd; at++) {
        for (int act = 0; act < 2 * MOST_BATHS; act++) {
          int to = rules.lead(line[at], act, v);
          join(to == NONE ? NONE : to & mask, 0);
        }
      }
      return lineEnd;
    }

    /** A scene of the line that flood made latest. */
    int sceneAt(int at) {
      return at >= 0 && at < lineEnd ? line[at] : NONE;
    }

    private void startLine() {
      int scenes = rules.hasFrail() ? ALL_SCENES : ROW_BITS;
      if (cost.length < scenes) {
        cost = new int[scenes];
        line = new int[scenes];
      }
      Arrays.fill(cost, NONE);
      exploredFor = NONE;
      plannedFor = NONE;
      lineEnd = 0;
      join(0, 0);
    }

    private void join(int scene, int itsCost) {
      if (scene < 0 || scene >= cost.length || lineEnd >= line.length) {
        return;
      }
      if (cost[scene] == NONE) {
        cost[scene] = itsCost;
        line[lineEnd++] = scene;
      }
    }

    /**
     * Puts scenes into the line by their cost. Two marks go along it, for makes and for pours: the
     * lesser of the costs to which they lead comes next, so the line stays in order without a heap.
     */
    private void explore(int v) {
      startLine();
      best = rules.reaches(0) ? 0 : NONE;
      int makeMark = 0;
      int pourMark = 0;
      for (int round = 0; round < 2 * ALL_SCENES; round++) {
        int byMake = makeMark < lineEnd ? cost[line[makeMark]] + MAKE_COST : FAR;
        int byPour = pourMark < lineEnd ? cost[line[pourMark]] + POUR_COST : FAR;
        int next = Math.min(byMake, byPour);
        if (next == FAR || best != NONE && next > best) {
          break;
        }
        if (byMake < byPour) {
          spread(line[makeMark++], 0, next, v);
        } else {
          spread(line[pourMark++], MOST_BATHS, next, v);
        }
      }
      makes[v] = best == NONE ? NONE : best >> MAKES_SHIFT;
      exploredFor = v;
    }

    private void spread(int scene, int firstAct, int next, int v) {
      for (int b = 0; b < rules.baths; b++) {
        int to = rules.lead(scene, firstAct + b, v);
        join(to, next);
        if (to != NONE && best == NONE && rules.reaches(to)) {
          best = next;
        }
      }
    }

    /**
     * Leaves a cost to those scenes alone that some best plan passes. It goes from the line's end, so
     * that those to which a scene leads are settled ahead of it.
     */
    private void dropDetours(int v) {
      for (int at = lineEnd - 1; at >= 0; at--) {
        int scene = line[at];
        boolean last = cost[scene] == best && rules.reaches(scene);
        if (!last && firstActOn(scene, v) == NONE) {
          cost[scene] = NONE;
        }
      }
    }

    /** The least act that leads on at just its cost, or NONE. */
    private int firstActOn(int scene, int v) {
      for (int act = 0; act < 2 * MOST_BATHS; act++) {
        int to = rules.lead(scene, act, v);
        int actCost = act < MOST_BATHS ? MAKE_COST : POUR_COST;
        if (to != NONE && cost[to] == cost[scene] + actCost) {
          return act;
        }
      }
      return NONE;
    }

    /** The plan takes the line's room, which is done with by then. */
    private void writePlan(int v) {
      int scene = 0;
      int acts = best & ACTS_MASK;
      for (int k = 0; k < acts && k < line.length; k++) {
        int act = firstActOn(scene, v);
        if (act == NONE) {
          break;
        }
        line[k] = act;
        scene = rules.lead(scene, act, v);
      }
    }
  }

  /** The row of bits, and whether it proves that so many vats never do. */
  private static final class Proof {
    private final Rules rules;
    private final Planner planner;
    final byte[] bits = new byte[ROW_BITS];
    int ones = 0;
    int faultAt = NONE;

    Proof(Rules rules, Planner planner) {
      this.rules = rules;
      this.planner = planner;
    }

    int turn(int k) {
      bits[k] ^= 1;
      ones += bits[k] == 1 ? 1 : -1;
      return bits[k];
    }

    int build(int v) {
      Arrays.fill(bits, (byte) 0);
      ones = 0;
      int scenes = planner.flood(v, ROW_BITS - 1);
      for (int at = 0; at < scenes; at++) {
        int k = planner.sceneAt(at);
        if (isRowBit(k)) {
          turn(k);
        }
      }
      return ones;
    }

    int examine(int v) {
      faultAt = 0;
      if (bits[0] == 0) {
        return 1;
      }
      for (int k = 0; k < ROW_BITS; k++) {
        int fault = bits[k] == 1 ? faultOf(k, v) : 0;
        if (fault != 0) {
          faultAt = k;
          return fault;
        }
      }
      faultAt = NONE;
      return 0;
    }

    private int faultOf(int k, int v) {
      if (rules.reaches(k)) {
        return 2;
      }
      if (!rules.known(k)) {
        return 3;
      }
      for (int act = 0; act < 2 * MOST_BATHS; act++) {
        int to = rules.lead(k, act, v);
        if (isRowBit(to) && bits[to] == 0) {
          return 4;
        }
      }
      return 0;
    }
  }
}
