import java.util.ArrayList;
import java.util.HashSet;
import java.util.List;
import java.util.Random;
import java.util.Set;

/**
 * What the promises say of each other, on many works, the same each time. Nothing here knows how a
 * bath is made: plans are held against make() and pour(), rows against plans, orders against goals.
 */
public final class CrossTests {
  private static final int WORKS = 1200;
  private static final int MOST_TRIED_VATS = 7;
  private static final int MOST_TRIED_ACTS = 7;
  private static final int MOST_FLIPPED = 150;

  private static int wrong = 0;
  private static int plansDone = 0;
  private static int plansTried = 0;
  private static int rowsProved = 0;

  public static void main(String[] args) {
    for (int number = 0; number < WORKS && wrong < 10; number++) {
      Works works = new Works(new Random(104729L * number + 3), number);
      leastIsFirstThatDoes(works);
      ordersTellWhatCanBeMade(works);
      for (int v = 1; v <= MOST_TRIED_VATS; v++) {
        planCanBeDone(works, v);
        if (works.kinds.length <= 4) {
          noShortPlanIsBetter(works, v);
        }
        if (works.hasRow()) {
          rowProvesWhatNoPlanDoes(works, v);
          rowHasFewestBits(works, v);
          rowTellsReach(works, v);
        }
      }
    }
    if (plansDone < WORKS || plansTried < WORKS / 4 || rowsProved < WORKS / 4) {
      fault("too few: " + plansDone + " plans done, " + plansTried + " tried, " + rowsProved + " rows");
    }
    System.out.println(wrong == 0 ? "the promises agree" : wrong + " times the promises don't agree");
    if (wrong != 0) {
      System.exit(1);
    }
  }

  private static void fault(String text) {
    wrong++;
    System.out.println(text);
  }

  private static void due(Works works, String what, int got, int want) {
    if (got != want) {
      fault(works.told() + ": " + what + " answered " + got + ", due is " + want);
    }
  }

  // Promises 19 and 20

  private static void leastIsFirstThatDoes(Works works) {
    DyeVats x = works.built();
    int least = -1;
    int makes = -1;
    for (int v = 1; v <= 18; v++) {
      int fewest = x.fewest(v);
      if (least == -1 && fewest >= 0) {
        least = v;
      } else if (least != -1 && (fewest < 0 || fewest > makes)) {
        fault(works.told() + ": fewest(" + v + ") answered " + fewest + ", with fewer vats " + makes);
      }
      makes = fewest;
    }
    due(works, "least()", x.least(), least);
    due(works, "least() ahead of fewest()", works.built().least(), least);
  }

  // Promises 9 and 19

  private static void ordersTellWhatCanBeMade(Works works) {
    if (works.hasStrong()) {
      return;
    }
    DyeVats x = works.built();
    Set<Integer> told = new HashSet<>();
    for (int k = 0; x.order(k) != -1; k++) {
      told.add(x.order(k));
    }
    for (int b = 0; b < works.kinds.length; b++) {
      x.forget();
      x.goal(b);
      due(works, "whether there is a plan for bath " + b, x.least() == -1 ? 0 : 1, told.contains(b) ? 1 : 0);
    }
  }

  // Promises 13, 15, 20 and 21

  private static void planCanBeDone(Works works, int v) {
    DyeVats x = works.built();
    int acts = x.plan(v, -1);
    due(works, "plan(" + v + ", 0) of " + acts + " acts", x.plan(v, 0) == -1 ? 0 : 1, acts > 0 ? 1 : 0);
    if (acts == -1) {
      due(works, "fewest(" + v + ") without a plan", x.fewest(v), -1);
      return;
    }
    plansDone++;
    Walk walk = new Walk(works, v);
    int makes = 0;
    for (int k = 0; k < acts; k++) {
      due(works, "goals reached ahead of the end for " + v, walk.reaches() ? 1 : 0, 0);
      int act = x.plan(v, k);
      makes += act < 9 ? 1 : 0;
      if (!walk.step(act)) {
        fault(works.told() + ": act " + k + " of the plan for " + v + " can't be done: " + act);
      }
    }
    due(works, "goals reached at the end for " + v, walk.reaches() ? 1 : 0, 1);
    due(works, "fewest(" + v + ")", x.fewest(v), makes);
    due(works, "plan(" + v + ", " + acts + ")", x.plan(v, acts), -1);
  }

  // Terms 3 and promise 21

  private static void noShortPlanIsBetter(Works works, int v) {
    DyeVats x = works.built();
    int acts = x.plan(v, -1);
    if (acts > MOST_TRIED_ACTS) {
      return;
    }
    Tries tries = new Tries(new Walk(works, v));
    tries.from(0);
    List<Integer> told = new ArrayList<>();
    for (int k = 0; k < acts; k++) {
      told.add(x.plan(v, k));
    }
    List<Integer> found = tries.best == null ? List.of() : tries.best;
    if (!found.equals(told) || (tries.best == null) != (acts == -1)) {
      fault(works.told() + ": the plan for " + v + " is " + told + ", but of all that are short " + tries.best);
    }
    plansTried++;
  }

  // Promises 23, 26 and 27

  private static void rowProvesWhatNoPlanDoes(Works works, int v) {
    DyeVats x = works.built();
    int bits = x.row(v);
    due(works, "count(6) behind row(" + v + ")", x.count(6), bits);
    boolean never = x.fewest(v) == -1;
    due(works, "check(" + v + ") behind row(" + v + ")", x.check(v), never ? 0 : 2);
    due(works, "where() behind row(" + v + ")", x.where() == -1 ? 0 : 1, never ? 0 : 1);
    if (never && v > 1) {
      due(works, "check(" + (v - 1) + ") of the row for " + v, x.check(v - 1), 0);
    }
  }

  private static void rowHasFewestBits(Works works, int v) {
    DyeVats x = works.built();
    int bits = x.row(v);
    if (x.check(v) != 0 || bits > MOST_FLIPPED) {
      return;
    }
    rowsProved++;
    for (int k : ones(works, v)) {
      DyeVats y = works.built();
      y.row(v);
      y.flip(k);
      due(works, "check(" + v + ") without bit " + k, y.check(v), k == 0 ? 1 : 4);
    }
  }

  private static List<Integer> ones(Works works, int v) {
    List<Integer> ones = new ArrayList<>();
    DyeVats x = null;
    for (int k = 0; k < 4096; k++) {
      if (k % 400 == 0) {
        x = works.built();
        x.row(v);
      }
      if (x.bit(k) == 1) {
        ones.add(k);
      }
    }
    return ones;
  }

  // Promises 22 and 23

  private static void rowTellsReach(Works works, int v) {
    DyeVats x = works.built();
    x.forget();
    due(works, "reach(" + v + ")", x.reach(v), x.row(v));
  }

  /** A works that can be built as often as wanted. */
  private static final class Works {
    private static final int[][] KINDS = {{0}, {0, 1, 3}, {0, 0, 2}, {0, 1, 2, 3, 4}, {4, 0}, {1, 0, 1}};
    final int[] kinds;
    final int[] goals;
    final boolean together;
    private final int[][] recipes;

    Works(Random random, int number) {
      int[] some = KINDS[number % KINDS.length];
      int size = 1 + random.nextInt(number % 9 == 8 ? 9 : 5);
      kinds = new int[size];
      recipes = new int[size][];
      for (int b = 0; b < size; b++) {
        kinds[b] = some[random.nextInt(some.length)];
        recipes[b] = random.nextInt(12) == 0 ? null : new int[random.nextInt(4)];
        for (int i = 0; recipes[b] != null && i < recipes[b].length; i++) {
          recipes[b][i] = random.nextInt(6) == 0 ? -1 : random.nextInt(size);
        }
      }
      goals = random.ints(0, size).distinct().limit(1 + random.nextInt(Math.min(3, size))).toArray();
      together = random.nextInt(3) == 0;
    }

    DyeVats built() {
      DyeVats x = new DyeVats();
      for (int kind : kinds) {
        x.bath(kind);
      }
      for (int b = 0; b < kinds.length; b++) {
        if (recipes[b] != null) {
          x.recipe(b, b % 3, recipes[b].length);
          for (int i = 0; i < recipes[b].length; i++) {
            // What would be a ring stays unnamed.
            x.need(b, i, recipes[b][i]);
          }
        }
      }
      for (int goal : goals) {
        x.goal(goal);
      }
      x.together(together);
      return x;
    }

    boolean hasStrong() {
      return has(3);
    }

    boolean hasRow() {
      return !has(2) && !has(4);
    }

    private boolean has(int kind) {
      for (int k : kinds) {
        if (k == kind) {
          return true;
        }
      }
      return false;
    }

    String told() {
      StringBuilder text = new StringBuilder("works");
      for (int b = 0; b < kinds.length; b++) {
        text.append(" (").append(kinds[b]).append(": ").append(java.util.Arrays.toString(recipes[b])).append(')');
      }
      return text.append(" goals ").append(java.util.Arrays.toString(goals)).append(together ? " at once" : "")
          .toString();
    }
  }

  /** Acts done by make() and pour(), and taken back by undo(), on objects of at most 512 calls each. */
  private static final class Walk {
    private static final int MOST_CALLS = 400;
    final Works works;
    final List<Integer> acts = new ArrayList<>();
    private final int v;
    private final List<Set<Integer>> stood = new ArrayList<>();
    private DyeVats x;
    private int calls;

    Walk(Works works, int v) {
      this.works = works;
      this.v = v;
      stood.add(new HashSet<>());
      anew();
    }

    private void anew() {
      x = works.built();
      x.vats(v);
      calls = 50;
      for (int act : acts) {
        ask(act);
      }
    }

    private int ask(int act) {
      calls++;
      return act < 9 ? x.make(act) : x.pour(act - 9);
    }

    boolean step(int act) {
      if (calls > MOST_CALLS && acts.size() < 100) {
        anew();
      }
      int free = ask(act);
      if (free == -2) {
        return false;
      }
      acts.add(act);
      Set<Integer> now = works.together ? new HashSet<>() : new HashSet<>(stood.get(stood.size() - 1));
      for (int goal : works.goals) {
        calls++;
        if (x.of(goal, 1) == 1) {
          now.add(goal);
        }
      }
      stood.add(now);
      return true;
    }

    void back() {
      calls++;
      x.undo();
      acts.remove(acts.size() - 1);
      stood.remove(stood.size() - 1);
    }

    boolean reaches() {
      return stood.get(stood.size() - 1).size() == works.goals.length;
    }
  }

  /** Tries all plans of few acts, the least first; of equally good ones the first is kept. */
  private static final class Tries {
    private final Walk walk;
    List<Integer> best = null;
    private int bestMakes = Integer.MAX_VALUE;

    Tries(Walk walk) {
      this.walk = walk;
    }

    void from(int makes) {
      int length = walk.acts.size();
      if (walk.reaches()) {
        if (best == null || makes < bestMakes || makes == bestMakes && length < best.size()) {
          best = new ArrayList<>(walk.acts);
          bestMakes = makes;
        }
        return;
      }
      if (length == MOST_TRIED_ACTS || makes >= bestMakes && length >= best.size()) {
        return;
      }
      for (int act = 0; act < 18; act++) {
        boolean is = act % 9 < walk.works.kinds.length;
        if (is && walk.step(act)) {
          from(makes + (act < 9 ? 1 : 0));
          walk.back();
        }
      }
    }
  }
}
