import java.util.ArrayDeque;
import java.util.ArrayList;
import java.util.Arrays;
import java.util.BitSet;
import java.util.HashMap;
import java.util.HashSet;
import java.util.List;
import java.util.Map;
import java.util.PriorityQueue;
import java.util.Random;
import java.util.Set;

/**
 * Long runs of calls, the same each time, on a DyeVats and on a plain model of the document side by
 * side. The model is written from the document in another way than the class: what stands is a row
 * of fillings, plans are compared act by act, rings and rows are found by trying.
 */
public final class ModelRuns {
  private static final int RUNS = 400;
  private static final int CALLS = 512;
  private static final String[] NAMES = {"vats", "bath", "recipe", "lose", "need", "named", "ring",
      "order", "goal", "forget", "together", "make", "why", "pour", "undo", "of", "count", "least",
      "fewest", "plan", "reach", "row", "bit", "flip", "check", "where"};

  private static int wrong = 0;
  private static final int[] asked = new int[NAMES.length];
  private static final List<Set<Integer>> answers = new ArrayList<>();

  public static void main(String[] args) {
    for (int i = 0; i < NAMES.length; i++) {
      answers.add(new HashSet<>());
    }
    for (int run = 0; run < RUNS && wrong < 10; run++) {
      new Run(run).go();
    }
    if (args.length > 0) {
      for (int i = 0; i < NAMES.length; i++) {
        System.out.println(NAMES[i] + " " + asked[i] + " " + answers.get(i).size() + " answers");
      }
    }
    System.out.println(wrong == 0 ? "class and model agree" : wrong + " answers differ");
    if (wrong != 0) {
      System.exit(1);
    }
  }

  /** One run: it first builds a works, since calls at random seldom get to where plans are long. */
  private static final class Run {
    private final int number;
    private final Random random;
    private final DyeVats real = new DyeVats();
    private final Model model = new Model();
    private final StringBuilder told = new StringBuilder();
    private final int[][] kindRows = {{0}, {0, 1, 3}, {0, 0, 0, 3}, {0, 1, 2, 3, 4}, {0, 4, 2}, {1, 3, 0, 3}};
    private final int[] kinds;
    private final int mostBaths;
    private int calls = 0;

    Run(int number) {
      this.number = number;
      this.random = new Random(7919L * number + 1);
      this.kinds = kindRows[number % kindRows.length];
      this.mostBaths = number % 7 == 6 ? 9 : 3 + number % 4;
    }

    void go() {
      build();
      while (calls < CALLS && wrong < 10) {
        anyCall();
      }
    }

    private void build() {
      for (int b = 0; b < mostBaths; b++) {
        call("bath", kinds[random.nextInt(kinds.length)], 0, 0);
      }
      for (int b = 0; b < mostBaths; b++) {
        int n = Math.min(b, random.nextInt(4));
        call("recipe", b, random.nextInt(3), n);
        for (int i = 0; i < n; i++) {
          call("need", b, i, random.nextInt(8) == 0 ? random.nextInt(mostBaths) : random.nextInt(b));
        }
      }
      int goals = 1 + random.nextInt(3);
      for (int i = 0; i < goals; i++) {
        call("goal", mostBaths - 1 - random.nextInt(Math.min(3, mostBaths)), 0, 0);
      }
      if (random.nextInt(3) == 0) {
        call("together", 1, 0, 0);
      }
    }

    private int someBath() {
      return random.nextInt(25) == 0 ? pick(-1, 9, 10, -7, Integer.MAX_VALUE, Integer.MIN_VALUE)
          : random.nextInt(Math.max(1, random.nextInt(12) == 0 ? 9 : model.kinds.size()));
    }

    private int someVats() {
      return random.nextInt(20) == 0 ? pick(0, -1, 19, 18, 17, Integer.MAX_VALUE, Integer.MIN_VALUE)
          : 1 + random.nextInt(random.nextInt(3) == 0 ? 18 : 6);
    }

    private int someType() {
      return random.nextInt(15) == 0 ? pick(-1, 3, 4, Integer.MIN_VALUE) : random.nextInt(3);
    }

    private int someBit() {
      if (random.nextInt(15) == 0) {
        return pick(-1, 4095, 4096, 5000, Integer.MIN_VALUE, Integer.MAX_VALUE, 0);
      }
      return random.nextInt(1 << Math.min(9, model.kinds.size()))
          + 512 * random.nextInt(random.nextInt(6) == 0 ? 8 : 1 << model.goals.size());
    }

    private int pick(int... row) {
      return row[random.nextInt(row.length)];
    }

    private void anyCall() {
      switch (random.nextInt(34)) {
        case 0 -> call("vats", someVats(), 0, 0);
        case 1 -> call("bath", random.nextInt(3) == 0 ? pick(-1, 5, 6) : kinds[random.nextInt(kinds.length)], 0, 0);
        case 2 -> recipeCalls();
        case 3 -> call("lose", someBath(), 0, 0);
        case 4, 5, 6 -> call("need", someBath(), random.nextInt(12) == 0 ? pick(-1, 4, 5) : random.nextInt(3),
            random.nextInt(8) == 0 ? pick(-1, -1, -2) : someBath());
        case 7 -> namedCall();
        case 8 -> call("ring", random.nextInt(11) - 1, 0, 0);
        case 9 -> call("order", random.nextInt(11) - 1, 0, 0);
        case 10 -> call("goal", someBath(), 0, 0);
        case 11 -> call(random.nextInt(3) == 0 ? "forget" : "count", pick(0, 1, 2, 3, 4, 5, 6, -1, 7), 0, 0);
        case 12 -> call(random.nextInt(3) == 0 ? "together" : "count", random.nextInt(2), 0, 0);
        case 13, 14 -> madeCalls();
        case 15 -> call("why", someBath(), 0, 0);
        case 16 -> call("pour", someBath(), 0, 0);
        case 17 -> call("undo", 0, 0, 0);
        case 18 -> call("of", someBath(), random.nextInt(10) - 1, 0);
        case 19 -> call("count", random.nextInt(10) - 1, 0, 0);
        case 20, 21 -> call("least", 0, 0, 0);
        case 22, 23 -> call("fewest", someVats(), 0, 0);
        case 24, 25 -> planCalls();
        case 26 -> call("reach", someVats(), 0, 0);
        case 27, 28 -> rowCalls();
        case 29 -> call("bit", someBit(), 0, 0);
        case 30 -> call("flip", someBit(), 0, 0);
        case 31 -> call("check", someVats(), 0, 0);
        case 32 -> call("where", 0, 0, 0);
        default -> pourAll();
      }
    }

    private void recipeCalls() {
      int b = someBath();
      int n = random.nextInt(12) == 0 ? pick(-1, 5, Integer.MIN_VALUE, 6) : random.nextInt(5);
      call("recipe", b, someType(), n);
      for (int i = 0; i < n && i < 4; i++) {
        if (random.nextInt(4) != 0) {
          call("need", b, i, someBath());
        }
      }
    }

    private void namedCall() {
      int b = someBath();
      boolean fits = random.nextInt(3) != 0 && b >= 0 && b < model.types.size() && model.types.get(b) >= 0;
      call("named", b, fits ? model.types.get(b) : someType(), random.nextInt(6) - 1);
    }

    private void madeCalls() {
      for (int i = random.nextInt(6); i >= 0; i--) {
        call(random.nextInt(6) == 0 ? "undo" : random.nextInt(8) == 0 ? "pour" : "make", someBath(), 0, 0);
      }
    }

    private void planCalls() {
      int v = someVats();
      int acts = call("plan", v, -1, 0);
      for (int k = 0; k <= acts; k++) {
        call("plan", v, k, 0);
      }
      call("plan", v, pick(-2, -1, 0, 40, 5000, Integer.MAX_VALUE, Integer.MIN_VALUE), 0);
    }

    private void rowCalls() {
      int v = someVats();
      call("row", v, 0, 0);
      for (int i = random.nextInt(3); i > 0; i--) {
        call("flip", someBit(), 0, 0);
      }
      call("check", random.nextInt(2) == 0 ? v : someVats(), 0, 0);
      call("where", 0, 0, 0);
    }

    private void pourAll() {
      for (int b = 0; b < model.kinds.size(); b++) {
        if (model.fills[b] > 0) {
          call("pour", b, 0, 0);
        }
      }
    }

    private int call(String name, int a, int b, int c) {
      if (calls >= CALLS) {
        return -2;
      }
      calls++;
      int got = real(name, a, b, c);
      int want = model.answer(name, a, b, c);
      told.append(name).append('(').append(a).append(", ").append(b).append(", ").append(c).append(") ");
      if (got != want) {
        wrong++;
        System.out.println("run " + number + ": " + told + "answered " + got + ", due is " + want);
      }
      int at = Arrays.asList(NAMES).indexOf(name);
      asked[at]++;
      answers.get(at).add(want);
      return want;
    }

    private int real(String name, int a, int b, int c) {
      return switch (name) {
        case "vats" -> real.vats(a);
        case "bath" -> real.bath(a);
        case "recipe" -> real.recipe(a, b, c);
        case "lose" -> real.lose(a);
        case "need" -> real.need(a, b, c);
        case "named" -> real.named(a, b, c);
        case "ring" -> real.ring(a);
        case "order" -> real.order(a);
        case "goal" -> real.goal(a);
        case "forget" -> real.forget();
        case "together" -> real.together(a == 1);
        case "make" -> real.make(a);
        case "why" -> real.why(a);
        case "pour" -> real.pour(a);
        case "undo" -> real.undo();
        case "of" -> real.of(a, b);
        case "count" -> real.count(a);
        case "least" -> real.least();
        case "fewest" -> real.fewest(a);
        case "plan" -> real.plan(a, b);
        case "reach" -> real.reach(a);
        case "row" -> real.row(a);
        case "bit" -> real.bit(a);
        case "flip" -> real.flip(a);
        case "check" -> real.check(a);
        default -> real.where();
      };
    }
  }

  /** A way to stand: how many vats each bath fills (0: it doesn't stand), and which goals have stood. */
  private record Way(List<Integer> fills, List<Boolean> stood) {
    int filled() {
      return fills.stream().mapToInt(Integer::intValue).sum();
    }

    boolean stands(int b) {
      return fills.get(b) > 0;
    }
  }

  private record Reached(Way way, int makes, List<Integer> acts) implements Comparable<Reached> {
    @Override
    public int compareTo(Reached other) {
      if (makes != other.makes) {
        return Integer.compare(makes, other.makes);
      }
      if (acts.size() != other.acts.size()) {
        return Integer.compare(acts.size(), other.acts.size());
      }
      for (int i = 0; i < acts.size(); i++) {
        if (!acts.get(i).equals(other.acts.get(i))) {
          return Integer.compare(acts.get(i), other.acts.get(i));
        }
      }
      return 0;
    }
  }

  private record Past(int[] fills, int made) {
  }

  private static final class Model {
    final List<Integer> kinds = new ArrayList<>();
    final List<Integer> types = new ArrayList<>();
    final List<List<Integer>> recipes = new ArrayList<>();
    final List<Integer> goals = new ArrayList<>();
    final List<Past> past = new ArrayList<>();
    final Map<Integer, List<Integer>> plans = new HashMap<>();
    int[] fills = new int[9];
    final int[] made = new int[9];
    int vats = 4;
    boolean together = false;
    List<Integer> ring = List.of();
    BitSet row = new BitSet();
    int fault = -1;

    int answer(String name, int a, int b, int c) {
      if (List.of("bath", "recipe", "lose", "need", "goal", "forget", "together").contains(name)) {
        plans.clear();
      }
      return switch (name) {
        case "vats" -> vats(a);
        case "bath" -> bath(a);
        case "recipe" -> recipe(a, b, c);
        case "lose" -> lose(a);
        case "need" -> need(a, b, c);
        case "named" -> named(a, b, c);
        case "ring" -> a >= 0 && a < ring.size() ? ring.get(a) : -1;
        case "order" -> order(a);
        case "goal" -> goal(a);
        case "forget" -> forget();
        case "together" -> together(a == 1);
        case "make" -> make(a);
        case "why" -> isBath(a) ? why(a, present(), vats) : -2;
        case "pour" -> pour(a);
        case "undo" -> undo();
        case "of" -> of(a, b);
        case "count" -> count(a);
        case "least" -> least();
        case "fewest" -> fewest(a);
        case "plan" -> plan(a, b);
        case "reach" -> reach(a);
        case "row" -> rowFor(a);
        case "bit" -> a < 0 || a >= 4096 ? -2 : row.get(a) ? 1 : 0;
        case "flip" -> flip(a);
        case "check" -> check(a);
        default -> fault;
      };
    }

    boolean isBath(int b) {
      return b >= 0 && b < kinds.size();
    }

    boolean anyStands() {
      return Arrays.stream(fills).anyMatch(f -> f > 0);
    }

    int free() {
      return vats - Arrays.stream(fills).sum();
    }

    Way present() {
      return wayOf(fills, List.of());
    }

    static Way wayOf(int[] fills, List<Boolean> stood) {
      List<Integer> row = new ArrayList<>();
      for (int f : fills) {
        row.add(f);
      }
      return new Way(row, stood);
    }

    int vats(int n) {
      if (n < 1 || n > 18 || n < vats - free()) {
        return -2;
      }
      int before = vats;
      vats = n;
      past.clear();
      return before;
    }

    int bath(int kind) {
      if (kind < 0 || kind > 4 || kinds.size() == 9) {
        return -2;
      }
      kinds.add(kind);
      types.add(-1);
      recipes.add(null);
      return kinds.size() - 1;
    }

    int recipe(int b, int type, int n) {
      if (!isBath(b) || type < 0 || type > 2 || anyStands() || n > 4) {
        return -2;
      }
      if (n < 0) {
        return -13;
      }
      List<Integer> places = new ArrayList<>();
      for (int i = 0; i < n; i++) {
        places.add(-1);
      }
      recipes.set(b, places);
      types.set(b, type);
      past.clear();
      return n;
    }

    int lose(int b) {
      if (!isBath(b) || anyStands()) {
        return -2;
      }
      int had = recipes.get(b) == null ? 0 : 1;
      recipes.set(b, null);
      types.set(b, -1);
      past.clear();
      return had;
    }

    int need(int b, int i, int other) {
      if (!isBath(b) || other != -1 && !isBath(other) || anyStands()) {
        return -2;
      }
      List<Integer> places = recipes.get(b);
      if (places == null) {
        return -10;
      }
      if (i < 0 || i >= places.size()) {
        return -11;
      }
      int before = places.set(i, other);
      List<Integer> found = firstRing(b);
      if (found != null) {
        places.set(i, before);
        ring = found;
        return -3;
      }
      past.clear();
      return before;
    }

    /** All rows of baths from b on, the shorter and the lesser first, till one closes a ring. */
    List<Integer> firstRing(int b) {
      ArrayDeque<List<Integer>> open = new ArrayDeque<>();
      open.add(List.of(b));
      while (!open.isEmpty()) {
        List<Integer> row = open.remove();
        List<Integer> needed = needs(row.get(row.size() - 1));
        if (needed.contains(b)) {
          return row;
        }
        for (int next = 0; next < kinds.size(); next++) {
          if (needed.contains(next) && !row.contains(next)) {
            List<Integer> longer = new ArrayList<>(row);
            longer.add(next);
            open.add(longer);
          }
        }
      }
      return null;
    }

    List<Integer> needs(int b) {
      List<Integer> needed = new ArrayList<>();
      if (recipes.get(b) != null) {
        for (int name : recipes.get(b)) {
          if (name >= 0) {
            needed.add(name);
          }
        }
      }
      return needed;
    }

    int named(int b, int type, int i) {
      if (!isBath(b) || type < 0 || type > 2) {
        return -2;
      }
      if (recipes.get(b) == null) {
        return -10;
      }
      if (types.get(b) != type) {
        return -12;
      }
      return i < 0 || i >= recipes.get(b).size() ? -11 : recipes.get(b).get(i);
    }

    int order(int k) {
      List<Integer> told = new ArrayList<>();
      boolean more = true;
      while (more) {
        more = false;
        for (int b = 0; b < kinds.size() && !more; b++) {
          if (!told.contains(b) && recipes.get(b) != null && told.containsAll(needs(b))) {
            told.add(b);
            more = true;
          }
        }
      }
      return k >= 0 && k < told.size() ? told.get(k) : -1;
    }

    int goal(int b) {
      if (!isBath(b) || goals.contains(b) || goals.size() == 3) {
        return -2;
      }
      goals.add(b);
      return goals.size();
    }

    int forget() {
      int before = goals.size();
      goals.clear();
      return before;
    }

    int together(boolean is) {
      int before = together ? 1 : 0;
      together = is;
      return before;
    }

    int usedUp(int b) {
      boolean uses = kinds.get(b) == 1 || kinds.get(b) == 3;
      return uses && !needs(b).isEmpty() ? needs(b).get(0) : -1;
    }

    int why(int b, Way way, int v) {
      if (recipes.get(b) == null) {
        return 1;
      }
      if (way.stands(b)) {
        return 2;
      }
      for (int other : needs(b)) {
        if (!way.stands(other)) {
          return 3;
        }
      }
      int used = usedUp(b);
      for (int other = 0; kinds.get(b) == 3 && other < kinds.size(); other++) {
        if (kinds.get(other) == 3 && way.stands(other) && other != used) {
          return 4;
        }
      }
      int free = v - way.filled();
      int usedFills = used < 0 ? 0 : way.fills().get(used);
      return free + usedFills < newFills(b) ? 5 : 0;
    }

    int newFills(int b) {
      return kinds.get(b) == 2 || kinds.get(b) == 4 ? 2 : 1;
    }

    int[] fillsAfter(Way way, int act) {
      int[] after = way.fills().stream().mapToInt(Integer::intValue).toArray();
      if (act >= 9) {
        after[act - 9] = 0;
        return after;
      }
      if (usedUp(act) >= 0) {
        after[usedUp(act)] = 0;
      }
      for (int b = 0; b < kinds.size(); b++) {
        if (kinds.get(b) == 4 && after[b] > 0) {
          after[b] = 1;
        }
      }
      after[act] = newFills(act);
      return after;
    }

    boolean canBeDone(Way way, int act, int v) {
      int b = act % 9;
      return isBath(b) && (act < 9 ? why(b, way, v) == 0 : way.stands(b));
    }

    Way after(Way way, int act) {
      int[] now = fillsAfter(way, act);
      List<Boolean> stood = new ArrayList<>(way.stood());
      for (int i = 0; i < stood.size() && !together; i++) {
        stood.set(i, stood.get(i) || now[goals.get(i)] > 0);
      }
      return wayOf(now, stood);
    }

    Way nothing(boolean withGoals) {
      List<Boolean> stood = new ArrayList<>();
      for (int i = 0; withGoals && i < goals.size(); i++) {
        stood.add(false);
      }
      return wayOf(new int[9], stood);
    }

    boolean reaches(Way way) {
      if (together) {
        return goals.stream().allMatch(way::stands);
      }
      return !way.stood().contains(false);
    }

    int make(int b) {
      if (!isBath(b) || why(b, present(), vats) != 0) {
        return -2;
      }
      done(b);
      made[b]++;
      return free();
    }

    int pour(int b) {
      if (!isBath(b) || fills[b] == 0) {
        return -2;
      }
      done(9 + b);
      return free();
    }

    void done(int act) {
      past.add(new Past(fills, act < 9 ? act : -1));
      if (past.size() > 100) {
        past.remove(0);
      }
      fills = fillsAfter(present(), act);
    }

    int undo() {
      if (past.isEmpty()) {
        return -2;
      }
      Past latest = past.remove(past.size() - 1);
      fills = latest.fills();
      if (latest.made() >= 0) {
        made[latest.made()]--;
      }
      return past.size();
    }

    int of(int b, int what) {
      if (!isBath(b)) {
        return -2;
      }
      return switch (what) {
        case 0 -> kinds.get(b);
        case 1 -> fills[b] > 0 ? 1 : 0;
        case 2 -> fills[b];
        case 3 -> recipes.get(b) == null ? -1 : recipes.get(b).size();
        case 4 -> types.get(b);
        case 5 -> made[b];
        case 6 -> new int[] {1, 3, 2, 4, 3}[kinds.get(b)];
        default -> -2;
      };
    }

    int count(int what) {
      return switch (what) {
        case 0 -> kinds.size();
        case 1 -> (int) Arrays.stream(fills).filter(f -> f > 0).count();
        case 2 -> vats;
        case 3 -> free();
        case 4 -> goals.size();
        case 5 -> past.size();
        case 6 -> row.cardinality();
        default -> -2;
      };
    }

    /** The best plan, or null; plans are taken up in their order, the best first. */
    List<Integer> best(int v) {
      if (plans.containsKey(v)) {
        return plans.get(v);
      }
      PriorityQueue<Reached> open = new PriorityQueue<>();
      Set<Way> closed = new HashSet<>();
      open.add(new Reached(nothing(true), 0, List.of()));
      List<Integer> found = null;
      while (!open.isEmpty() && found == null) {
        Reached at = open.remove();
        if (reaches(at.way())) {
          found = at.acts();
        } else if (closed.add(at.way())) {
          for (int act = 0; act < 18; act++) {
            if (canBeDone(at.way(), act, v)) {
              List<Integer> acts = new ArrayList<>(at.acts());
              acts.add(act);
              open.add(new Reached(after(at.way(), act), at.makes() + (act < 9 ? 1 : 0), acts));
            }
          }
        }
      }
      plans.put(v, found);
      return found;
    }

    int least() {
      for (int v = 1; v <= 18; v++) {
        if (best(v) != null) {
          return v;
        }
      }
      return -1;
    }

    int fewest(int v) {
      if (v < 1 || v > 18) {
        return -2;
      }
      return best(v) == null ? -1 : (int) best(v).stream().filter(act -> act < 9).count();
    }

    int plan(int v, int k) {
      if (v < 1 || v > 18 || k < -1) {
        return -2;
      }
      if (best(v) == null) {
        return -1;
      }
      return k == -1 ? best(v).size() : k < best(v).size() ? best(v).get(k) : -1;
    }

    Set<Way> allWays(int v, boolean withGoals) {
      ArrayDeque<Way> open = new ArrayDeque<>();
      Set<Way> seen = new HashSet<>();
      open.add(nothing(withGoals));
      seen.add(nothing(withGoals));
      while (!open.isEmpty()) {
        Way way = open.remove();
        for (int act = 0; act < 18; act++) {
          if (canBeDone(way, act, v)) {
            Way next = after(way, act);
            if (seen.add(next)) {
              open.add(next);
            }
          }
        }
      }
      return seen;
    }

    int reach(int v) {
      return v < 1 || v > 18 ? -2 : allWays(v, false).size();
    }

    boolean noRow(int v) {
      return v < 1 || v > 18 || kinds.contains(2) || kinds.contains(4);
    }

    int rowFor(int v) {
      if (noRow(v)) {
        return -2;
      }
      row = new BitSet();
      for (Way way : allWays(v, true)) {
        row.set(bitOf(way));
      }
      return row.cardinality();
    }

    static int bitOf(Way way) {
      int k = 0;
      for (int b = 0; b < 9; b++) {
        k += way.stands(b) ? 1 << b : 0;
      }
      for (int i = 0; i < way.stood().size(); i++) {
        k += way.stood().get(i) ? 512 << i : 0;
      }
      return k;
    }

    int flip(int k) {
      if (k < 0 || k >= 4096) {
        return -2;
      }
      row.flip(k);
      return row.get(k) ? 1 : 0;
    }

    int check(int v) {
      if (noRow(v)) {
        return -2;
      }
      fault = -1;
      if (!row.get(0)) {
        fault = 0;
        return 1;
      }
      for (int k = 0; k < 4096; k++) {
        int found = row.get(k) ? faultOf(k, v) : 0;
        if (found != 0) {
          fault = k;
          return found;
        }
      }
      return 0;
    }

    int faultOf(int k, int v) {
      int[] standing = new int[9];
      for (int b = 0; b < 9; b++) {
        standing[b] = k >> b & 1;
      }
      List<Boolean> stood = new ArrayList<>();
      for (int i = 0; i < goals.size(); i++) {
        stood.add((k >> 9 + i & 1) == 1);
      }
      Way way = wayOf(standing, stood);
      if (reaches(way)) {
        return 2;
      }
      for (int b = kinds.size(); b < 9; b++) {
        if (way.stands(b)) {
          return 3;
        }
      }
      for (int i = together ? 0 : goals.size(); i < 3; i++) {
        if ((k >> 9 + i & 1) == 1) {
          return 3;
        }
      }
      for (int act = 0; act < 18; act++) {
        if (canBeDone(way, act, v) && !row.get(bitOf(after(way, act)))) {
          return 4;
        }
      }
      return 0;
    }
  }
}
