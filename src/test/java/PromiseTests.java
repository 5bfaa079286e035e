/** Calls with the answers that are due, a method or more for each promise of the document. */
public final class PromiseTests {
  private static final int LEAST_INT = Integer.MIN_VALUE;
  private static final int MOST_INT = Integer.MAX_VALUE;
  private static final int BATH = 0;
  private static final int SPENT = 1;
  private static final int DOUBLE = 2;
  private static final int STRONG = 3;
  private static final int FRAIL = 4;

  private static int wrong = 0;

  public static void main(String[] args) {
    newObject();
    objectsApart();
    vats();
    bath();
    recipe();
    lose();
    need();
    named();
    ring();
    ringOfManyWays();
    order();
    goal();
    forget();
    together();
    make();
    makeUsesUp();
    makeOfFrail();
    why();
    whyOfStrong();
    pour();
    undo();
    undoHundred();
    undoCleared();
    of();
    count();
    least();
    leastOfStrong();
    fewest();
    plan();
    planOfPours();
    planChanges();
    reach();
    row();
    bitAndFlip();
    check();
    checkTogether();
    checkActs();
    checkOverfull();
    where();
    System.out.println(wrong == 0 ? "all promises hold" : wrong + " answers are not as due");
    if (wrong != 0) {
      System.exit(1);
    }
  }

  private static void due(String call, int got, int want) {
    if (got != want) {
      wrong++;
      System.out.println(call + " answered " + got + ", due is " + want);
    }
  }

  /** A bath with a recipe that names these. */
  private static int add(DyeVats x, int kind, int... names) {
    int b = x.bath(kind);
    x.recipe(b, 0, names.length);
    for (int i = 0; i < names.length; i++) {
      x.need(b, i, names[i]);
    }
    return b;
  }

  private static void duePlan(String what, DyeVats x, int v, int... acts) {
    due(what + ": plan(" + v + ", -1)", x.plan(v, -1), acts.length);
    for (int k = 0; k < acts.length; k++) {
      due(what + ": plan(" + v + ", " + k + ")", x.plan(v, k), acts[k]);
    }
    due(what + ": plan behind its end", x.plan(v, acts.length), -1);
  }

  private static void newObject() {
    due("1: reach() ahead of all else", new DyeVats().reach(18), 1);
    due("1: fewest() ahead of all else", new DyeVats().fewest(18), 0);
    due("1: plan() ahead of all else", new DyeVats().plan(1, -1), 0);
    DyeVats x = new DyeVats();
    int[] counts = {0, 0, 4, 4, 0, 0, 0};
    for (int what = 0; what < counts.length; what++) {
      due("1: count(" + what + ")", x.count(what), counts[what]);
    }
    due("1: together", x.together(false), 0);
    due("1: ring", x.ring(0), -1);
    due("1: order", x.order(0), -1);
    due("1: undo", x.undo(), -2);
    due("1: where", x.where(), -1);
    due("1: bit", x.bit(0), 0);
    due("1: least", x.least(), 1);
    due("1: reach", x.reach(1), 1);
    due("1: check", x.check(1), 1);
  }

  private static void objectsApart() {
    DyeVats x = new DyeVats();
    add(x, BATH);
    add(x, BATH, 0);
    x.need(1, 0, 1);
    x.goal(1);
    x.vats(7);
    x.make(0);
    x.flip(9);
    x.check(1);
    DyeVats y = new DyeVats();
    due("1: another has no baths", y.count(0), 0);
    due("1: another has no ring", y.ring(0), -1);
    due("1: another has its own bits", y.bit(9), 0);
    due("1: another has no check", y.where(), -1);
    add(y, DOUBLE);
    y.goal(0);
    duePlan("1: another's plan", y, 2, 0);
    duePlan("1: the first one's plan", x, 2, 0, 1);
    due("1: another's vats", y.count(2), 4);
    y.make(0);
    due("1: another's free vats", y.count(3), 2);
    due("1: the first one's free vats", x.count(3), 6);
    due("1: the first one's act", x.undo(), 0);
    due("1: another's act stays", y.count(5), 1);
    due("1: the first one's bits", x.count(6), 1);
    due("1: the first one's kind", x.of(0, 0), BATH);
    due("1: another's kind", y.of(0, 0), DOUBLE);
  }

  private static void vats() {
    DyeVats x = new DyeVats();
    due("2: to 18", x.vats(18), 4);
    due("2: to 1", x.vats(1), 18);
    for (int n : new int[] {0, 19, -1, LEAST_INT, MOST_INT}) {
      due("2: wrong " + n, x.vats(n), -2);
    }
    due("2: kept", x.count(2), 1);
    x.vats(4);
    add(x, BATH);
    add(x, DOUBLE);
    x.make(0);
    x.make(1);
    due("2: below the filled", x.vats(2), -2);
    due("2: refused leaves undo", x.count(5), 2);
    due("2: just the filled", x.vats(3), 4);
    due("2: clears undo", x.count(5), 0);
    due("2: none free", x.count(3), 0);
  }

  private static void bath() {
    DyeVats x = new DyeVats();
    for (int kind : new int[] {-1, 5, LEAST_INT, MOST_INT}) {
      due("3: wrong kind", x.bath(kind), -2);
    }
    for (int b = 0; b < 9; b++) {
      due("3: number", x.bath(b % 5), b);
      due("3: kind", x.of(b, 0), b % 5);
      due("3: no recipe", x.of(b, 3), -1);
    }
    due("3: a tenth", x.bath(0), -2);
    due("3: count", x.count(0), 9);
  }

  private static void recipe() {
    DyeVats x = new DyeVats();
    x.bath(BATH);
    x.bath(BATH);
    for (int b : new int[] {-1, 2, 9, LEAST_INT, MOST_INT}) {
      due("4: no such bath", x.recipe(b, 0, -1), -2);
    }
    due("4: no such type", x.recipe(0, 3, -1), -2);
    due("4: no such type", x.recipe(0, -1, 0), -2);
    due("4: too long", x.recipe(0, 0, 5), -2);
    due("4: too long", x.recipe(0, 0, MOST_INT), -2);
    due("4: below 0", x.recipe(0, 0, -1), -13);
    due("4: below 0", x.recipe(0, 0, LEAST_INT), -13);
    due("4: nothing done", x.of(0, 3), -1);
    due("4: longest", x.recipe(1, 2, 4), 4);
    for (int i = 0; i < 4; i++) {
      due("4: names none", x.named(1, 2, i), -1);
    }
    x.need(1, 3, 0);
    due("4: anew", x.recipe(1, 1, 4), 4);
    due("4: names none again", x.named(1, 1, 3), -1);
    due("4: shorter", x.recipe(1, 1, 0), 0);
    due("4: without places", x.named(1, 1, 0), -11);
    x.make(1);
    due("4: a bath stands", x.recipe(0, 0, 0), -2);
    due("4: a bath stands ahead of the size", x.recipe(0, 0, -1), -2);
  }

  private static void lose() {
    DyeVats x = new DyeVats();
    add(x, BATH);
    add(x, BATH, 0);
    due("5: no such bath", x.lose(2), -2);
    due("5: no such bath", x.lose(-1), -2);
    x.make(0);
    due("5: a bath stands", x.lose(1), -2);
    x.pour(0);
    due("5: had one", x.lose(1), 1);
    due("5: had none", x.lose(1), 0);
    due("5: none now", x.of(1, 4), -1);
    due("5: can't be made", x.why(1), 1);
    due("5: needs nothing", x.need(0, 0, 1), -11);
  }

  private static void need() {
    DyeVats x = new DyeVats();
    for (int b = 0; b < 3; b++) {
      x.bath(BATH);
    }
    x.recipe(0, 0, 2);
    x.recipe(1, 1, 1);
    due("6: no such bath", x.need(3, 0, 0), -2);
    due("6: no such bath", x.need(-1, 0, 0), -2);
    due("6: no such other", x.need(2, 0, 3), -2);
    due("6: no such other", x.need(2, 0, -2), -2);
    due("6: no recipe", x.need(2, 9, 2), -10);
    for (int i : new int[] {-1, 2, LEAST_INT, MOST_INT}) {
      due("6: no such place", x.need(0, i, 0), -11);
    }
    due("6: itself", x.need(0, 0, 0), -3);
    due("6: named stays", x.named(0, 0, 0), -1);
    due("6: first", x.need(0, 1, 1), -1);
    due("6: would ring", x.need(1, 0, 0), -3);
    due("6: again", x.need(0, 1, 2), 1);
    due("6: no ring now", x.need(1, 0, 0), -1);
    due("6: would ring by the old one's place", x.need(0, 1, 1), -3);
    due("6: stays", x.named(0, 0, 1), 2);
    due("6: none", x.need(0, 1, -1), 2);
    due("6: the same", x.need(0, 1, -1), -1);
    x.make(0);
    due("6: a bath stands", x.need(2, 0, 0), -2);
  }

  private static void named() {
    DyeVats x = new DyeVats();
    for (int b = 0; b < 4; b++) {
      x.bath(BATH);
    }
    for (int type = 0; type < 3; type++) {
      x.recipe(type, type, 3);
      x.need(type, 2, 3);
    }
    for (int b = 0; b < 3; b++) {
      for (int type = 0; type < 3; type++) {
        due("7: as a type", x.named(b, type, 2), b == type ? 3 : -12);
        due("7: no place", x.named(b, type, 3), b == type ? -11 : -12);
        due("7: no place", x.named(b, type, -1), b == type ? -11 : -12);
      }
      due("7: none", x.named(b, b, 0), -1);
    }
    due("7: no recipe", x.named(3, 0, 9), -10);
    due("7: no such bath", x.named(4, 0, 0), -2);
    due("7: no such bath", x.named(LEAST_INT, 0, 0), -2);
    due("7: no such type", x.named(3, 3, 0), -2);
    due("7: no such type", x.named(3, -1, 0), -2);
  }

  private static void dueRing(String what, DyeVats x, int... baths) {
    for (int k = 0; k < baths.length; k++) {
      due("8: " + what + " ring(" + k + ")", x.ring(k), baths[k]);
    }
    due("8: " + what + " end", x.ring(baths.length), -1);
    due("8: " + what + " -1", x.ring(-1), -1);
    due("8: " + what + " far", x.ring(MOST_INT), -1);
    due("8: " + what + " far", x.ring(LEAST_INT), -1);
  }

  private static void ring() {
    DyeVats x = new DyeVats();
    for (int b = 0; b < 9; b++) {
      x.bath(BATH);
      x.recipe(b, 0, 2);
    }
    dueRing("none", x);
    for (int b = 0; b < 8; b++) {
      x.need(b, 0, b + 1);
    }
    due("8: all nine", x.need(8, 0, 0), -3);
    dueRing("all nine", x, 8, 0, 1, 2, 3, 4, 5, 6, 7);
    x.lose(4);
    x.need(8, 1, -1);
    x.need(8, 5, 3);
    dueRing("kept", x, 8, 0, 1, 2, 3, 4, 5, 6, 7);
    due("8: itself", x.need(2, 1, 2), -3);
    dueRing("itself", x, 2);
  }

  private static void ringOfManyWays() {
    DyeVats x = new DyeVats();
    for (int b = 0; b < 8; b++) {
      x.bath(BATH);
      x.recipe(b, 0, 4);
    }
    // From 7 to 0: by 6 and 1, by 5 and 2, by 5 and 3, and by the lesser but longer 4, 1, 2.
    int[][] needs = {{7, 6}, {7, 5}, {7, 4}, {6, 1}, {5, 3}, {5, 2}, {4, 1}, {1, 2}, {2, 0}, {3, 0}};
    int[] places = new int[8];
    for (int[] pair : needs) {
      due("8: named", x.need(pair[0], places[pair[0]]++, pair[1]), -1);
    }
    due("8: many ways", x.need(0, 0, 7), -3);
    dueRing("many ways", x, 0, 7, 5, 2);
    x.need(1, 0, 0);
    due("8: another way", x.need(0, 0, 7), -3);
    dueRing("another way", x, 0, 7, 4, 1);
  }

  private static void order() {
    DyeVats x = new DyeVats();
    for (int b = 0; b < 6; b++) {
      x.bath(BATH);
    }
    x.recipe(0, 0, 1);
    x.need(0, 0, 4);
    x.recipe(1, 0, 1);
    x.need(1, 0, 3);
    x.recipe(2, 0, 0);
    x.recipe(4, 0, 1);
    x.need(4, 0, 2);
    x.recipe(5, 0, 2);
    int[] told = {2, 4, 0, 5};
    for (int k = 0; k < told.length; k++) {
      due("9: order(" + k + ")", x.order(k), told[k]);
    }
    due("9: none more", x.order(4), -1);
    for (int k : new int[] {-1, 6, 9, LEAST_INT, MOST_INT}) {
      due("9: none such", x.order(k), -1);
    }
    x.recipe(3, 0, 0);
    int[] toldThen = {2, 3, 1, 4, 0, 5};
    for (int k = 0; k < toldThen.length; k++) {
      due("9: then order(" + k + ")", x.order(k), toldThen[k]);
    }
  }

  private static void goal() {
    DyeVats x = new DyeVats();
    for (int b = 0; b < 4; b++) {
      x.bath(BATH);
    }
    due("10: no such bath", x.goal(4), -2);
    due("10: no such bath", x.goal(-1), -2);
    due("10: one", x.goal(3), 1);
    due("10: already", x.goal(3), -2);
    due("10: two", x.goal(0), 2);
    due("10: three", x.goal(1), 3);
    due("10: a fourth", x.goal(2), -2);
    due("10: count", x.count(4), 3);
  }

  private static void forget() {
    DyeVats x = new DyeVats();
    add(x, BATH);
    x.bath(BATH);
    due("11: none", x.forget(), 0);
    x.goal(0);
    x.goal(1);
    due("11: unreached", x.least(), -1);
    due("11: two", x.forget(), 2);
    due("11: none now", x.count(4), 0);
    due("11: reached", x.fewest(1), 0);
    due("11: a goal again", x.goal(1), 1);
  }

  private static void together() {
    DyeVats x = new DyeVats();
    add(x, BATH);
    add(x, BATH);
    x.goal(0);
    x.goal(1);
    due("12: apart", x.least(), 1);
    duePlan("12: apart", x, 1, 0, 9, 1);
    due("12: was not", x.together(true), 0);
    due("12: at once", x.least(), 2);
    due("12: one vat", x.fewest(1), -1);
    duePlan("12: at once", x, 2, 0, 1);
    due("12: was", x.together(true), 1);
    due("12: was", x.together(false), 1);
    due("12: apart again", x.least(), 1);
  }

  private static void make() {
    DyeVats x = new DyeVats();
    add(x, BATH);
    add(x, DOUBLE, 0);
    add(x, BATH);
    add(x, BATH);
    x.bath(BATH);
    for (int b : new int[] {-1, 5, 9, LEAST_INT, MOST_INT}) {
      due("13: no such bath", x.make(b), -2);
    }
    due("13: no recipe", x.make(4), -2);
    due("13: needed", x.make(1), -2);
    due("13: first", x.make(0), 3);
    due("13: stands", x.make(0), -2);
    due("13: double", x.make(1), 1);
    due("13: last", x.make(2), 0);
    due("13: full", x.make(3), -2);
    due("13: stands not", x.of(3, 1), 0);
    due("13: more room", x.vats(5), 4);
    due("13: now", x.make(3), 0);
  }

  private static void makeUsesUp() {
    DyeVats x = new DyeVats();
    x.vats(2);
    add(x, BATH);
    add(x, BATH);
    add(x, SPENT, -1, 1, 0);
    add(x, SPENT);
    add(x, BATH, 2);
    x.make(0);
    x.make(1);
    due("13: uses up the first named", x.make(2), 0);
    due("13: used", x.of(1, 1), 0);
    due("13: unused", x.of(0, 1), 1);
    due("13: names none, uses none", x.why(3), 5);
    x.pour(0);
    due("13: bath uses none", x.make(4), 0);
    due("13: still stands", x.of(2, 1), 1);
  }

  private static void makeOfFrail() {
    DyeVats x = new DyeVats();
    x.vats(18);
    add(x, FRAIL);
    add(x, FRAIL);
    add(x, SPENT, 1);
    due("13: frail fills 2", x.make(0), 16);
    due("13: the other 2, this 1", x.make(1), 15);
    due("13: fills", x.of(0, 2), 1);
    due("13: fills", x.of(1, 2), 2);
    x.pour(0);
    due("13: pour leaves it", x.of(1, 2), 2);
    x.undo();
    due("13: spent", x.make(2), 16);
    due("13: gone", x.of(1, 2), 0);
    due("13: anew", x.make(1), 14);
    due("13: fills 2 anew", x.of(1, 2), 2);
  }

  private static void why() {
    DyeVats x = new DyeVats();
    x.vats(1);
    x.bath(BATH);
    add(x, BATH);
    add(x, BATH, 1);
    add(x, DOUBLE);
    add(x, FRAIL);
    add(x, SPENT, 1);
    due("14: no such bath", x.why(6), -2);
    due("14: no such bath", x.why(-1), -2);
    due("14: no recipe", x.why(0), 1);
    due("14: needed", x.why(2), 3);
    due("14: double", x.why(3), 5);
    due("14: frail", x.why(4), 5);
    due("14: can", x.why(1), 0);
    x.make(1);
    due("14: stands", x.why(1), 2);
    due("14: full", x.why(2), 5);
    due("14: uses up", x.why(5), 0);
    due("14: changes nothing", x.count(5), 1);
  }

  private static void whyOfStrong() {
    DyeVats x = new DyeVats();
    x.vats(3);
    add(x, STRONG);
    add(x, STRONG, 0);
    add(x, STRONG);
    add(x, BATH);
    add(x, STRONG, 3, 0);
    add(x, DOUBLE);
    x.make(0);
    due("14: uses the strong one up", x.why(1), 0);
    due("14: another strong", x.why(2), 4);
    due("14: needed first", x.why(4), 3);
    x.make(3);
    due("14: uses another up", x.why(4), 4);
    due("14: too full", x.why(5), 5);
    due("14: made", x.make(1), 1);
    due("14: used up", x.of(0, 1), 0);
  }

  private static void pour() {
    DyeVats x = new DyeVats();
    add(x, DOUBLE);
    add(x, BATH, 0);
    due("15: no such bath", x.pour(2), -2);
    due("15: no such bath", x.pour(-1), -2);
    due("15: stands not", x.pour(0), -2);
    x.make(0);
    x.make(1);
    due("15: needed ones, too", x.pour(0), 3);
    due("15: the last", x.pour(1), 4);
    due("15: once", x.pour(1), -2);
    due("15: made counts stay", x.of(1, 5), 1);
  }

  private static void undo() {
    DyeVats x = new DyeVats();
    x.vats(6);
    add(x, FRAIL);
    add(x, SPENT, 0);
    add(x, BATH);
    due("16: none", x.undo(), -2);
    x.make(0);
    x.make(2);
    due("16: 1 now", x.of(0, 2), 1);
    due("16: of bath 2", x.undo(), 1);
    due("16: 2 again", x.of(0, 2), 2);
    x.make(1);
    due("16: used up", x.of(0, 1), 0);
    due("16: of bath 1", x.undo(), 1);
    due("16: stands again", x.of(0, 2), 2);
    x.pour(0);
    due("16: of a pour", x.undo(), 1);
    due("16: fills 2 again", x.of(0, 2), 2);
    due("16: made stays", x.of(0, 5), 1);
    x.make(9);
    x.bath(BATH);
    due("16: bath() leaves them", x.undo(), 0);
    due("16: none made", x.of(0, 5), 0);
    due("16: all free", x.count(3), 6);
    due("16: none more", x.undo(), -2);
  }

  private static void undoHundred() {
    DyeVats x = new DyeVats();
    add(x, BATH);
    for (int i = 0; i < 51; i++) {
      x.make(0);
      due("16: so many", x.count(5), Math.min(100, 2 * i + 1));
      x.pour(0);
    }
    x.make(0);
    due("16: a hundred", x.count(5), 100);
    for (int left = 99; left >= 0; left--) {
      due("16: left", x.undo(), left);
      due("16: stands", x.of(0, 1), 1 - left % 2);
    }
    due("16: not the oldest", x.undo(), -2);
    due("16: made", x.of(0, 5), 2);
    due("16: the third act stays", x.count(1), 1);
  }

  private static void undoCleared() {
    for (int which = 0; which < 8; which++) {
      DyeVats x = new DyeVats();
      add(x, BATH);
      add(x, BATH, 0);
      x.bath(BATH);
      x.make(0);
      x.pour(0);
      int[] left = {0, 0, 0, 0, 2, 2, 2, 2};
      switch (which) {
        case 0 -> x.recipe(1, 0, 0);
        case 1 -> x.lose(1);
        case 2 -> x.need(1, 0, 0);
        case 3 -> x.vats(4);
        case 4 -> x.recipe(1, 0, -1);
        case 5 -> x.need(1, 0, 1);
        case 6 -> x.need(2, 0, 0);
        default -> x.vats(19);
      }
      due("16: left behind " + which, x.count(5), left[which]);
    }
    DyeVats x = new DyeVats();
    add(x, BATH);
    x.bath(BATH);
    x.make(0);
    x.pour(0);
    x.goal(0);
    x.together(true);
    x.forget();
    x.row(2);
    x.least();
    due("16: others leave them", x.count(5), 2);
    x.lose(1);
    due("16: what had no recipe is lost, too", x.count(5), 0);
  }

  private static void of() {
    DyeVats x = new DyeVats();
    int[] worth = {1, 3, 2, 4, 3};
    int[] fills = {1, 1, 2, 1, 2};
    x.vats(18);
    for (int kind = 0; kind < 5; kind++) {
      x.bath(kind);
      due("17: no size", x.of(kind, 3), -1);
      due("17: no type", x.of(kind, 4), -1);
      x.recipe(kind, kind % 3, kind);
      due("17: kind", x.of(kind, 0), kind);
      due("17: size", x.of(kind, 3), kind);
      due("17: type", x.of(kind, 4), kind % 3);
      due("17: worth", x.of(kind, 6), worth[kind]);
      due("17: stands not", x.of(kind, 1), 0);
      due("17: fills none", x.of(kind, 2), 0);
      due("17: not made", x.of(kind, 5), 0);
      x.make(kind);
      due("17: stands", x.of(kind, 1), 1);
      due("17: fills", x.of(kind, 2), fills[kind]);
      due("17: made", x.of(kind, 5), 1);
      x.pour(kind);
    }
    for (int what : new int[] {-1, 7, LEAST_INT, MOST_INT}) {
      due("17: no such what", x.of(0, what), -2);
    }
    for (int b : new int[] {-1, 5, 9, LEAST_INT, MOST_INT}) {
      due("17: no such bath", x.of(b, 0), -2);
    }
    x.make(0);
    x.pour(0);
    x.lose(0);
    due("17: made since the beginning", x.of(0, 5), 2);
  }

  private static void count() {
    DyeVats x = new DyeVats();
    add(x, BATH);
    add(x, BATH);
    x.vats(7);
    x.make(0);
    x.make(1);
    x.pour(0);
    x.goal(1);
    x.flip(4095);
    x.flip(7);
    x.flip(8);
    x.flip(7);
    int[] counts = {2, 1, 7, 6, 1, 3, 2};
    for (int what = 0; what < counts.length; what++) {
      due("18: count(" + what + ")", x.count(what), counts[what]);
    }
    x.row(1);
    due("18: of the row", x.count(6), 5);
    for (int what : new int[] {-1, 7, LEAST_INT, MOST_INT}) {
      due("18: no such what", x.count(what), -2);
    }
  }

  private static void least() {
    DyeVats x = new DyeVats();
    due("19: without goals", x.least(), 1);
    for (int b = 0; b < 9; b++) {
      add(x, DOUBLE);
    }
    x.goal(8);
    due("19: one double", x.least(), 2);
    x.forget();
    x.together(true);
    x.recipe(8, 0, 4);
    x.recipe(7, 0, 4);
    for (int i = 0; i < 4; i++) {
      x.need(8, i, 4 + i);
      x.need(7, i, i);
    }
    x.goal(8);
    due("19: much", x.least(), 10);
    x.goal(0);
    x.goal(1);
    due("19: others are made anew", x.least(), 10);
    due("20: two are made anew", x.fewest(10), 11);
    due("20: one is made anew", x.fewest(12), 10);
    due("20: none is made anew", x.fewest(14), 9);
    x.lose(0);
    due("19: never", x.least(), -1);
  }

  private static void leastOfStrong() {
    DyeVats x = new DyeVats();
    add(x, STRONG);
    add(x, STRONG);
    x.goal(0);
    x.goal(1);
    due("19: strong ones apart", x.least(), 1);
    x.together(true);
    due("19: strong ones together", x.least(), -1);
    due("20: strong ones together", x.fewest(18), -1);
    due("21: strong ones together", x.plan(18, -1), -1);
    due("21: strong ones together", x.plan(18, 0), -1);
  }

  private static void fewest() {
    DyeVats x = new DyeVats();
    add(x, BATH);
    add(x, BATH, 0);
    add(x, BATH, 0);
    add(x, BATH, 1);
    add(x, BATH, 3, 2);
    x.goal(4);
    due("20: enough", x.fewest(4), 5);
    due("20: just so", x.fewest(3), 5);
    due("20: too few", x.fewest(2), -1);
    x.goal(0);
    x.together(true);
    due("20: the lowest is made anew", x.fewest(3), 6);
    due("20: four", x.fewest(4), 5);
    for (int v : new int[] {0, 19, -1, LEAST_INT, MOST_INT}) {
      due("20: wrong vats", x.fewest(v), -2);
    }
    DyeVats y = new DyeVats();
    add(y, SPENT);
    add(y, SPENT, 0);
    add(y, SPENT, 0);
    add(y, BATH, 1, 2);
    y.goal(3);
    due("20: made twice", y.fewest(3), 5);
    duePlan("20: made twice", y, 3, 0, 1, 0, 2, 3);
  }

  private static void plan() {
    DyeVats x = new DyeVats();
    duePlan("21: without goals", x, 1);
    x.bath(BATH);
    x.recipe(0, 0, 0);
    duePlan("21: without goals", x, 18);
    add(x, BATH);
    add(x, BATH, 1, 0);
    x.goal(2);
    duePlan("21: the least first", x, 3, 0, 1, 2);
    x.make(1);
    duePlan("21: nothing stands at first", x, 3, 0, 1, 2);
    due("21: none", x.plan(2, -1), -1);
    due("21: none", x.plan(2, 0), -1);
    due("21: none", x.plan(2, MOST_INT), -1);
    due("21: far", x.plan(3, MOST_INT), -1);
    due("21: k below", x.plan(3, -2), -2);
    due("21: k below", x.plan(2, LEAST_INT), -2);
    for (int v : new int[] {0, 19, -1, LEAST_INT, MOST_INT}) {
      due("21: wrong vats", x.plan(v, 0), -2);
    }
  }

  private static void planOfPours() {
    DyeVats x = new DyeVats();
    add(x, BATH);
    add(x, BATH, 0);
    add(x, BATH, 1);
    add(x, BATH, 2);
    x.goal(3);
    duePlan("21: pours as late as can be", x, 2, 0, 1, 9, 2, 10, 3);
    duePlan("21: makes ahead of pours", x, 3, 0, 1, 2, 9, 3);
    duePlan("21: no pours", x, 4, 0, 1, 2, 3);
    DyeVats y = new DyeVats();
    add(y, BATH);
    add(y, FRAIL);
    add(y, DOUBLE, 1);
    y.goal(2);
    duePlan("21: a frail one is made less by any bath", y, 3, 1, 0, 9, 2);
    DyeVats z = new DyeVats();
    add(z, BATH);
    add(z, SPENT, 0);
    add(z, BATH, 0);
    z.goal(1);
    z.goal(2);
    duePlan("21: what is used up is used last", z, 2, 0, 2, 1);
    due("21: with one vat", z.fewest(1), -1);
  }

  private static void planChanges() {
    DyeVats x = new DyeVats();
    add(x, BATH);
    add(x, BATH, 0);
    x.goal(1);
    duePlan("21: by turns", x, 2, 0, 1);
    due("21: another", x.fewest(1), -1);
    duePlan("21: by turns", x, 2, 0, 1);
    due("22: between", x.reach(2), 4);
    duePlan("21: by turns", x, 2, 0, 1);
    x.need(1, 0, -1);
    duePlan("21: behind need()", x, 2, 1);
    x.goal(0);
    duePlan("21: behind goal()", x, 2, 0, 1);
    x.lose(0);
    due("21: behind lose()", x.plan(2, -1), -1);
    x.recipe(0, 0, 0);
    duePlan("21: behind recipe()", x, 2, 0, 1);
    x.forget();
    duePlan("21: behind forget()", x, 2);
  }

  private static void reach() {
    DyeVats x = new DyeVats();
    x.bath(BATH);
    due("22: nothing can be made", x.reach(18), 1);
    for (int b = 1; b < 9; b++) {
      add(x, BATH);
    }
    x.recipe(0, 0, 0);
    due("22: one at most", x.reach(1), 10);
    due("22: two at most", x.reach(2), 46);
    due("22: all", x.reach(9), 512);
    x.goal(0);
    x.goal(1);
    x.make(0);
    due("22: goals aside", x.reach(18), 512);
    for (int v : new int[] {0, 19, -1, LEAST_INT, MOST_INT}) {
      due("22: wrong vats", x.reach(v), -2);
    }
    DyeVats y = new DyeVats();
    for (int b = 0; b < 9; b++) {
      add(y, FRAIL);
    }
    due("22: frail ones", y.reach(1), 1);
    due("22: frail ones", y.reach(2), 10);
    // When all stand, the latest made fills 2.
    due("22: all frail ones", y.reach(18), 512 + 9 * 256 - 1);
  }

  private static void row() {
    DyeVats x = new DyeVats();
    due("23: no baths", x.row(1), 1);
    for (int b = 0; b < 9; b++) {
      add(x, BATH);
    }
    due("23: no goals", x.row(18), 512);
    x.goal(8);
    x.goal(0);
    x.goal(4);
    // With its goals that stand a set of baths has been with any of the others.
    due("23: three goals", x.row(18), 64 * 27);
    due("23: goal 0 is bath 8", x.bit(256 + 512), 1);
    due("23: goal 1 is bath 0", x.bit(1 + 1024), 1);
    due("23: stands unstood", x.bit(1), 0);
    due("23: all stood", x.bit(7 * 512), 1);
    x.together(true);
    due("23: together", x.row(18), 512);
    due("23: no h", x.bit(512), 0);
    due("23: vats", x.row(1), 10);
    x.flip(3);
    for (int v : new int[] {0, 19, -1, LEAST_INT, MOST_INT}) {
      due("23: wrong vats", x.row(v), -2);
    }
    due("23: refused changes nothing", x.count(6), 11);
    for (int kind : new int[] {DOUBLE, FRAIL}) {
      DyeVats y = new DyeVats();
      y.flip(9);
      y.bath(kind);
      due("23: a kind that can't be", y.row(1), -2);
      due("23: kept", y.bit(9), 1);
      due("26: a kind that can't be", y.check(1), -2);
    }
  }

  private static void bitAndFlip() {
    DyeVats x = new DyeVats();
    for (int k : new int[] {-1, 4096, LEAST_INT, MOST_INT}) {
      due("24: none such", x.bit(k), -2);
      due("25: none such", x.flip(k), -2);
    }
    for (int k : new int[] {0, 1, 2048, 4095}) {
      due("24: at first", x.bit(k), 0);
      due("25: on", x.flip(k), 1);
      due("24: on", x.bit(k), 1);
      due("25: off", x.flip(k), 0);
      due("24: off", x.bit(k), 0);
      due("25: on again", x.flip(k), 1);
    }
    due("25: others stay", x.bit(2047), 0);
    due("25: count", x.count(6), 4);
  }

  private static void check() {
    DyeVats x = new DyeVats();
    for (int v : new int[] {0, 19, -1, LEAST_INT, MOST_INT}) {
      due("26: wrong vats", x.check(v), -2);
    }
    due("26: bit 0", x.check(1), 1);
    x.flip(0);
    due("26: without goals any", x.check(1), 2);
    due("27: without goals any", x.where(), 0);
    add(x, BATH);
    add(x, BATH, 0);
    x.goal(1);
    due("26: leads to 0", x.check(1), 4);
    x.flip(1);
    due("26: proves", x.check(1), 0);
    due("27: none", x.where(), -1);
    due("26: not for 2", x.check(2), 4);
    due("27: not for 2", x.where(), 1);
    x.flip(4);
    due("26: no such bath", x.check(1), 3);
    due("27: no such bath", x.where(), 4);
    x.flip(4);
    x.flip(1024);
    due("26: no such goal", x.check(1), 3);
    due("27: no such goal", x.where(), 1024);
    x.flip(512 + 1024 + 4);
    x.flip(1024);
    due("26: all stood ahead of none such", x.check(1), 2);
    due("27: all stood", x.where(), 1540);
  }

  private static void checkTogether() {
    DyeVats x = new DyeVats();
    add(x, BATH);
    add(x, BATH);
    x.goal(0);
    x.goal(1);
    x.together(true);
    due("26: row of one vat", x.row(1), 3);
    due("26: proves together", x.check(1), 0);
    x.flip(3);
    due("26: all stand", x.check(1), 2);
    due("27: all stand", x.where(), 3);
    x.flip(3);
    x.flip(512);
    due("26: any h", x.check(1), 3);
    due("27: any h", x.where(), 512);
    x.flip(512);
    x.flip(3 * 512);
    due("26: h of all goals is none such", x.check(1), 3);
    x.flip(3 * 512);
    x.together(false);
    due("26: leads to stood ones", x.check(1), 4);
    due("27: leads to stood ones", x.where(), 0);
    x.row(1);
    due("26: apart one vat does", x.check(1), 2);
    due("27: both have stood", x.where(), 3 * 512);
  }

  private static void checkActs() {
    DyeVats x = new DyeVats();
    add(x, BATH);
    add(x, SPENT, 0);
    add(x, STRONG);
    add(x, STRONG);
    x.bath(BATH);
    x.goal(4);
    x.row(2);
    due("26: never", x.check(2), 0);
    due("26: nor with 1", x.check(1), 0);
    due("26: but 3 lead elsewhere", x.check(3), 4);
    // A pour, a use, and a strong one in place of another are acts, too.
    x.flip(1);
    due("26: a make", x.check(2), 4);
    due("27: a make", x.where(), 0);
    x.flip(1);
    x.flip(12);
    due("26: two strong ones only pour", x.check(2), 0);
    x.flip(2);
    due("26: a use", x.check(1), 4);
    due("27: a use", x.where(), 1);
    x.flip(2);
    x.flip(28);
    due("26: a pour", x.check(2), 4);
    due("27: a pour", x.where(), 28);
  }

  /** Where more stand than there are vats, those that stay must leave room; the free are counted below 0. */
  private static void checkOverfull() {
    DyeVats x = new DyeVats();
    add(x, BATH);
    add(x, BATH);
    add(x, SPENT, 0);
    x.bath(BATH);
    x.goal(3);
    x.row(1);
    x.flip(3);
    due("26: a use that leaves too many", x.check(1), 0);
  }

  private static void where() {
    DyeVats x = new DyeVats();
    due("27: no check", x.where(), -1);
    x.check(0);
    due("27: a refused one", x.where(), -1);
    due("27: with 1", x.check(1), 1);
    due("27: with 1", x.where(), 0);
    x.bath(BATH);
    x.goal(0);
    x.flip(0);
    x.flip(3);
    due("27: later", x.check(1), 3);
    due("27: later", x.where(), 3);
    x.check(19);
    x.flip(3);
    x.row(1);
    due("27: of the latest", x.where(), 3);
    x.check(1);
    due("27: none", x.where(), -1);
  }
}
