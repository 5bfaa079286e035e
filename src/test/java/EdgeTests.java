import java.util.ArrayList;
import java.util.HashSet;
import java.util.List;
import java.util.Set;
import java.util.regex.Matcher;
import java.util.regex.Pattern;

/**
 * A test for each sentence of the document that names a boundary case, in the document's order.
 *
 * <p>A test is a text of calls with the answers that are due, such as vats(19)=-2; a call without an
 * answer prepares and must not be refused. add(kind, names..) is a bath with a recipe that names
 * these (-1: none); min and max are the ints at the ends. Behind each call that is refused, and each
 * that only asks, what a Look asks of the object must be as without that call.
 */
public final class EdgeTests {
  private static final int PROMISES = 27;

  /** Something of each sort, none of which stands: bath 4 has no recipe, and ring() and where() tell one. */
  private static final String RICH = "add(0) add(1,0) add(3) bath(0) recipe(3,2,4) need(3,3,0) need(3,1,2) bath(0)"
      + " goal(3) goal(1) row(3) flip(4095) flip(7) check(3) recipe(2,1,1) need(2,0,2)=-3 vats(5) ";

  /** The same with baths 0 and 2 in 2 of the 5 vats, and 4 acts that can be taken back. */
  private static final String STANDING = RICH + "make(0) make(2) pour(0) make(0) ";

  private static int wrong = 0;
  private static int sentences = 0;
  private static final Set<Integer> promisesSeen = new HashSet<>();

  public static void main(String[] args) {
    calls();
    termsOfBaths();
    termsOfVats();
    termsOfFrail();
    termsOfReasons();
    termsOfStrong();
    termsOfRoom();
    termsOfUsingUp();
    termsOfPlans();
    termsOfTheRow();
    termsOfRefusals();
    newObject();
    vats();
    bath();
    recipe();
    lose();
    need();
    needRing();
    named();
    ring();
    order();
    goal();
    forget();
    together();
    make();
    why();
    pour();
    undo();
    undoHundred();
    undoCleared();
    of();
    count();
    least();
    fewest();
    plan();
    reach();
    row();
    bit();
    flip();
    check();
    checkFaults();
    checkActs();
    where();
    fullWorks();
    allPromisesSeen();
    System.out.println(wrong == 0 ? sentences + " sentences hold" : wrong + " answers are not as due");
    if (wrong != 0) {
      System.exit(1);
    }
  }

  private static void sentence(String told, String calls) {
    sentences++;
    Matcher promise = Pattern.compile("(\\d+): .*").matcher(told);
    if (promise.matches()) {
      promisesSeen.add(Integer.parseInt(promise.group(1)));
    }
    new Run(told).go(calls);
  }

  private static void fault(String text) {
    wrong++;
    System.out.println(text);
  }

  private static void allPromisesSeen() {
    for (int n = 1; n <= PROMISES; n++) {
      if (!promisesSeen.contains(n)) {
        fault("no sentence of promise " + n);
      }
    }
  }

  /** The call for each of the values, put where the star is. */
  private static String each(String call, String values) {
    StringBuilder text = new StringBuilder();
    for (String value : values.split(" ")) {
      text.append(call.replace("*", value)).append(' ');
    }
    return text.toString();
  }

  /** The calls that tell a whole plan, its length and its end. */
  private static String acts(int v, int... numbers) {
    StringBuilder text = new StringBuilder();
    text.append(" plan(" + v + ",-1)=" + numbers.length);
    for (int k = 0; k < numbers.length; k++) {
      text.append(" plan(" + v + "," + k + ")=" + numbers[k]);
    }
    return text.append(" plan(" + v + "," + numbers.length + ")=-1 ").toString();
  }

  // What it is

  private static void calls() {
    sentence("used for at most 512 calls, the last one, too",
        "add(0)" + "make(0)=3 pour(0)=4 ".repeat(254) + "of(0,5)=254 count(5)=100");
  }

  // Terms 1

  private static void termsOfBaths() {
    sentence("BATHS are numbered from 0 as they come, 9 at most",
        "bath(0)=0 bath(1)=1 bath(2)=2 bath(3)=3 bath(4)=4 bath(0)=5 bath(0)=6 bath(0)=7 bath(3)=8 bath(0)=-2"
            + " count(0)=9 of(0,0)=0 of(4,0)=4 of(8,0)=3 of(9,0)=-2");
    sentence("each has a RECIPE, or none (at first)",
        "bath(1)=0 of(0,3)=-1 of(0,4)=-1 named(0,0,0)=-10 why(0)=1 order(0)=-1 lose(0)=0");
    sentence("0 to 4 PLACES",
        "bath(0) recipe(0,0,0)=0 of(0,3)=0 named(0,0,0)=-11 recipe(0,0,5)=-2 recipe(0,0,4)=4 of(0,3)=4"
            + " named(0,0,0)=-1 named(0,0,3)=-1 named(0,0,4)=-11 recipe(0,0,-1)=-13");
    for (int type = 0; type < 3; type++) {
      sentence("bytes, shorts or longs: each PLACE names any bath, or none",
          "bath(0) ".repeat(9) + "recipe(4," + type + ",4)=4 need(4,0,0)=-1 need(4,3,8)=-1 named(4," + type
              + ",0)=0 named(4," + type + ",1)=-1 named(4," + type + ",3)=8 need(4,3,-1)=8 named(4," + type
              + ",3)=-1");
    }
    sentence("a bath NEEDS those that its RECIPE names: in the last PLACE alone",
        "add(0) bath(0) recipe(1,0,4) need(1,3,0)=-1 why(1)=3 make(0)=3 why(1)=0");
    sentence("a bath NEEDS those that its RECIPE names: none where all PLACES name none",
        "bath(0) recipe(0,0,4) why(0)=0 order(0)=0 make(0)=3");
    sentence("a bath NEEDS those that its RECIPE names: while one of two PLACES names it",
        "add(0) add(0,0,0) need(1,0,-1)=0 why(1)=3 order(0)=0 need(1,1,-1)=0 why(1)=0");
    sentence("a bath that NEEDS itself is a RING, too",
        "bath(0) recipe(0,0,1) need(0,0,0)=-3 ring(0)=0 ring(1)=-1");
    sentence("a row of baths each of which NEEDS the next is no RING without the last one's need",
        "add(0) add(0,0) add(0,1,0) add(0,2,1,0) count(0)=4 order(3)=3");
  }

  // Terms 2

  private static void termsOfVats() {
    sentence("1 to 18 VATS, 4 at first",
        "count(2)=4 count(3)=4 vats(0)=-2 vats(1)=4 vats(19)=-2 vats(18)=1 count(3)=18");
    sentence("at first none STANDS",
        "add(0) add(2) add(4) count(1)=0 of(0,1)=0 of(1,2)=0 of(2,2)=0 count(3)=4 pour(0)=-2");
    sentence("a DOUBLE FILLS 2, others 1",
        "vats(18) add(0) add(1) add(2) add(3) make(0)=17 of(0,2)=1 make(1)=16 of(1,2)=1 make(2)=14 of(2,2)=2"
            + " make(3)=13 of(3,2)=1 of(2,2)=2 of(0,2)=1 count(3)=13");
    sentence("FREE are the VATS that none FILLS: all, and none",
        "add(0) add(0) add(2) count(3)=4 make(0)=3 make(1)=2 make(2)=0 count(3)=0 pour(0)=1 pour(2)=3 pour(1)=4"
            + " count(3)=4");
  }

  private static void termsOfFrail() {
    String works = "vats(6) add(4) add(0) ";
    sentence("a FRAIL 2 till another bath is made behind it, then 1",
        works + "make(0)=4 of(0,2)=2 make(1)=4 of(0,2)=1 of(1,2)=1");
    sentence("a FRAIL 2: one made ahead of it doesn't count", works + "make(1)=5 make(0)=3 of(0,2)=2");
    sentence("a FRAIL 2: a MAKE that can't be done leaves it", works + "make(0)=4 make(0)=-2 make(2)=-2 of(0,2)=2");
    sentence("a FRAIL 2: a POUR of another leaves it", works + "make(1)=5 make(0)=3 pour(1)=4 of(0,2)=2");
    sentence("then 1: also when the other is POURED out", works + "make(0)=4 make(1)=4 pour(1)=5 of(0,2)=1");
    sentence("a FRAIL 2: when it is made anew",
        works + "make(0)=4 make(1)=4 pour(0)=5 of(0,2)=0 make(0)=3 of(0,2)=2");
    sentence("then each FRAIL that STANDS FILLS 1; then the new one STANDS",
        "vats(18) add(4) add(4) add(4) add(0) make(0)=16 make(1)=15 make(2)=14 of(0,2)=1 of(1,2)=1 of(2,2)=2"
            + " make(3)=14 of(2,2)=1 pour(3)=15 pour(1)=16 make(1)=14 of(1,2)=2 of(2,2)=1");
    sentence("each FRAIL that STANDS: one that doesn't FILLS none",
        works + "add(4) make(0)=4 pour(0)=6 make(2)=4 of(0,2)=0 of(2,2)=2");
  }

  private static void termsOfReasons() {
    sentence("1 it has no RECIPE: none yet, and none any more",
        "bath(0) why(0)=1 recipe(0,0,0) why(0)=0 lose(0)=1 why(0)=1 make(0)=-2");
    sentence("1 ahead of 4", "add(3) bath(3) make(0)=3 why(1)=1 make(1)=-2");
    sentence("1 ahead of 5", "vats(1) add(0) bath(0) make(0)=0 why(1)=1 make(1)=-2");
    sentence("2 it STANDS", "add(0) why(0)=0 make(0)=3 why(0)=2 make(0)=-2 pour(0)=4 why(0)=0");
    sentence("2 ahead of 3", "add(0) add(0,0) make(0)=3 make(1)=2 pour(0)=3 why(1)=2 make(1)=-2");
    sentence("2 ahead of 4", "add(3) make(0)=3 why(0)=2 make(0)=-2");
    sentence("2 ahead of 5", "vats(1) add(0) make(0)=0 why(0)=2 make(0)=-2");
    for (int missing = 0; missing < 4; missing++) {
      StringBuilder others = new StringBuilder();
      for (int b = 0; b < 4; b++) {
        others.append(b == missing ? "" : "make(" + b + ") ");
      }
      sentence("3 one that it NEEDS doesn't STAND, be it any",
          "vats(5) add(0) add(0) add(0) add(0) add(0,0,1,2,3) " + others + "why(4)=3 make(4)=-2 make(" + missing
              + ")=1 why(4)=0 make(4)=0");
    }
    sentence("3 one that was USED UP", "add(0) add(1,0) add(0,0) make(0)=3 why(2)=0 make(1)=3 why(2)=3 make(2)=-2");
    sentence("3 ahead of 4", "add(3) add(0) add(3,1) make(0)=3 why(2)=3 make(2)=-2");
    sentence("3 ahead of 5", "vats(1) add(0) add(0) add(0,1) make(0)=0 why(2)=3 make(2)=-2");
    sentence("4 ahead of 5", "vats(1) add(3) add(3) make(0)=0 why(1)=4 make(1)=-2 vats(2) why(1)=4");
    sentence("5 the last of them",
        "vats(1) add(0) add(0) make(0)=0 why(1)=5 make(1)=-2 vats(2)=1 why(1)=0 make(1)=0");
  }

  private static void termsOfStrong() {
    sentence("4 it is STRONG, and a STRONG one STANDS",
        "add(3) add(3) make(0)=3 why(1)=4 make(1)=-2 pour(0)=4 why(1)=0 make(1)=3 why(0)=4");
    sentence("4 it is STRONG: others may be made beside a STRONG one",
        "vats(7) add(3) add(0) add(1) add(2) add(4) make(0)=6" + each("why(*)=0", "1 2 3 4"));
    sentence("4 a STRONG one STANDS: beside others it may be made",
        "vats(7) add(0) add(1) add(2) add(4) add(3) make(0) make(1) make(2) make(3) why(4)=0 make(4)=1");
    sentence("4 other than the one that it USES UP",
        "add(3) add(3,0) make(0)=3 why(1)=0 make(1)=3 of(0,1)=0 of(1,1)=1 count(1)=1");
    sentence("4 other than the one that it USES UP: named in a later PLACE, but first",
        "add(3) bath(3) recipe(1,0,4) need(1,3,0) make(0)=3 why(1)=0 make(1)=3 count(1)=1");
    sentence("4 a STRONG one that it NEEDS, but doesn't USE UP",
        "add(3) add(0) add(3,1,0) make(0)=3 make(1)=2 why(2)=4 make(2)=-2 of(0,1)=1");
    sentence("4 other than the one that it USES UP: a third one STANDS where a bit says so",
        "add(3) add(3) add(3,0) bath(0) goal(3) row(4)=4 check(4)=0 flip(3)=1 check(4)=0 where()=-1 flip(2)=0"
            + " check(4)=4 where()=0");
  }

  private static void termsOfRoom() {
    sentence("5 fewer than it will FILL: 1 for a BATH",
        "vats(2) add(0) add(0) add(0) make(0)=1 why(1)=0 make(1)=0 why(2)=5");
    sentence("5 fewer than it will FILL: 2 for a DOUBLE",
        "vats(3) add(0) add(2) make(0)=2 why(1)=0 vats(2)=3 why(1)=5 make(1)=-2");
    sentence("5 fewer than it will FILL: 2 for a FRAIL",
        "vats(3) add(0) add(4) make(0)=2 why(1)=0 vats(2)=3 why(1)=5 make(1)=-2");
    sentence("5 in the least VATS",
        "vats(1) add(0) add(1) add(2) add(3) add(4) why(0)=0 why(1)=0 why(2)=5 why(3)=0 why(4)=5");
    sentence("5 a FRAIL that STANDS counts 2 till the new one is made",
        "vats(2) add(4) add(0) make(0)=0 why(1)=5 make(1)=-2 vats(3)=2 why(1)=0 make(1)=1");
    sentence("5 a FRAIL that FILLS 1 leaves room",
        "vats(3) add(4) add(0) add(2) make(0)=1 why(2)=5 make(1)=1 pour(1)=2 why(2)=0 make(2)=0");
    sentence("5 and those that the one that it USES UP FILLS: 1",
        "vats(1) add(0) add(1,0) add(3,0) make(0)=0 why(1)=0 why(2)=0 make(1)=0 pour(1)=1 make(0)=0 make(2)=0");
    sentence("5 and those that the one that it USES UP FILLS: 2 of a DOUBLE",
        "vats(2) add(2) add(1,0) make(0)=0 why(1)=0 make(1)=1");
    sentence("5 and those that the one that it USES UP FILLS: 2 of a FRAIL",
        "vats(2) add(4) add(1,0) make(0)=0 why(1)=0 make(1)=1");
    sentence("5 and those that the one that it USES UP FILLS: 1 of a FRAIL",
        "vats(3) add(4) add(1,0) add(0) add(0) make(0)=1 make(2)=1 make(3)=0 why(1)=0 make(1)=0 count(1)=3");
    sentence("5 one that is NEEDED, but not USED UP, leaves no room",
        "vats(2) add(0) add(0) add(1,0,1) add(0,0) add(2,0) add(4,0) make(0)=1 why(3)=0 why(4)=5 why(5)=5"
            + " make(1)=0 why(2)=0 why(3)=5 make(2)=0 count(1)=2");
  }

  private static void termsOfUsingUp() {
    sentence("a SPENT or STRONG one USES UP the bath named first: not the least, nor the last",
        "vats(9) add(0) add(0) add(0) add(1,1,0,2) add(3,1,2,0) make(0) make(1) make(2) make(3)=6 of(0,1)=1"
            + " of(1,1)=0 of(2,1)=1 make(1)=5 make(4)=5 of(0,1)=1 of(1,1)=0 of(2,1)=1");
    sentence("names first: where PLACES ahead name none",
        "add(0) add(0) add(1,-1,-1,1,0) make(0) make(1) make(2)=2 of(0,1)=1 of(1,1)=0");
    sentence("names first: what it names first now",
        "add(0) add(0) add(1,0,1) need(2,0,-1)=0 make(0) make(1) why(2)=0 make(2)=2 of(0,1)=1 of(1,1)=0");
    sentence("names first: one that it names twice", "add(0) add(1,0,0) make(0)=3 make(1)=3 of(0,1)=0 count(1)=1");
    sentence("if it names any: without PLACES, and with such as name none",
        "vats(1) add(0) add(1) add(3) bath(1) recipe(3,0,4) bath(3) recipe(4,0,4) make(0)=0"
            + each("why(*)=5", "1 2 3 4") + "vats(5) make(1)=3 make(2)=2 make(3)=1 of(0,1)=1 why(4)=4");
    sentence("others USE UP none",
        "vats(9) add(0) add(0,0) add(2,0) add(4,0) make(0)=8 make(1)=7 make(2)=5 make(3)=3 of(0,1)=1");
    sentence("to POUR can be done if it STANDS: also one that others NEED",
        "add(0) add(0,0) pour(0)=-2 make(0)=3 make(1)=2 pour(0)=3 of(0,1)=0 of(1,1)=1 pour(0)=-2");
  }

  // Terms 3

  private static void termsOfPlans() {
    sentence("GOALS are baths, 3 at most",
        "bath(0) bath(0) bath(0) bath(0) goal(3)=1 goal(2)=2 goal(1)=3 goal(0)=-2 count(4)=3");
    sentence("when nothing STANDS at first",
        "add(0) add(0,0) goal(1) make(0) make(1) fewest(2)=2" + acts(2, 0, 1)
            + "fewest(1)=-1 least()=2 reach(1)=2 row(1)=2");
    sentence("for so many VATS: not for those that there are",
        "vats(1) add(0) add(0,0) goal(1) fewest(2)=2 vats(18) fewest(1)=-1");
    sentence("if each of them STANDS behind some act (also different ones)",
        "add(0) add(0) add(0) goal(0) goal(1) goal(2) least()=1 fewest(1)=3" + acts(1, 0, 9, 1, 10, 2));
    sentence("TOGETHER: if all STAND behind one act",
        "add(0) add(0) add(0) goal(0) goal(1) goal(2) together(yes) least()=3 fewest(2)=-1 fewest(3)=3"
            + acts(3, 0, 1, 2));
    sentence("TOGETHER: what is USED UP by another GOAL is made anew",
        "add(0) add(1,0) goal(0) goal(1) least()=1 fewest(1)=2 together(yes) fewest(1)=-1 fewest(2)=3"
            + acts(2, 0, 1, 0));
    sentence("a PLAN without acts, if there are no GOALS",
        "least()=1 fewest(1)=0 fewest(18)=0" + acts(1) + acts(18) + "add(0) least()=1 fewest(1)=0" + acts(1)
            + "together(yes) least()=1 fewest(18)=0" + acts(18) + "goal(0) fewest(1)=1 forget()=1 fewest(1)=0"
            + acts(1));
    sentence("the fewest MAKES, also where another PLAN has fewer acts",
        "add(3) add(1,0) add(4,1,0) add(4,0,2) add(3,3) add(3,2,2) add(2,1) goal(6) goal(4) fewest(5)=7"
            + acts(5, 0, 1, 0, 6, 15, 2, 10, 3, 9, 4));
    sentence("of these the fewest acts",
        "add(0) add(0,0) add(0,1) goal(2)" + acts(3, 0, 1, 2) + acts(2, 0, 1, 9, 2));
    sentence("of these the least first act that differs: of MAKES",
        "add(0) add(0) add(0) add(0,2,1,0) goal(3)" + acts(4, 0, 1, 2, 3));
    sentence("of these the least first act that differs: of POURS",
        "add(0) add(0) add(0,0,1) add(2,2) goal(3)" + acts(5, 0, 1, 2, 3) + acts(4, 0, 1, 2, 9, 3)
            + acts(3, 0, 1, 2, 9, 10, 3) + "fewest(2)=-1");
    sentence("of these the least first act that differs: a MAKE ahead of a POUR",
        "add(0) add(0,0) add(0) add(0,1,2) goal(3)" + acts(3, 0, 1, 2, 9, 3));
    sentence("of these the least first act that differs: of PLANS that end elsewhere",
        "add(1) add(0) add(2,0,0) add(3,1) goal(0) goal(3) fewest(1)=3" + acts(1, 0, 9, 1, 3));
    sentence("of these the least first act that differs: of such as REACH, not of others as long",
        "add(2) add(4) add(4,0) add(0,2,1,1) goal(1) goal(3) together(yes) fewest(5)=4" + acts(5, 0, 2, 9, 1, 3));
    sentence("of these the least first act that differs: with a FRAIL one that FILLS 1 or 2",
        "add(4) add(1,0) add(2,0,0) add(0,0,2) add(4,1,2) add(1,0,4,3) add(4,5,0) add(1,1,2) goal(6) fewest(5)=10"
            + acts(5, 0, 2, 1, 4, 10, 11, 0, 2, 3, 5, 11, 0, 12, 13, 6));
    sentence("an act's NUMBER: the bath's of a MAKE; 9 and the bath's of a POUR",
        "bath(0) ".repeat(9) + "recipe(8,0,0) recipe(7,0,1) need(7,0,8) recipe(6,0,1) need(6,0,7) goal(6)"
            + acts(2, 8, 7, 17, 6) + "recipe(0,0,0) recipe(1,0,0) forget() goal(0) goal(1)" + acts(1, 0, 9, 1));
  }

  // Terms 4

  private static void termsOfTheRow() {
    sentence("4096 bits, all 0 at first",
        "count(6)=0 bit(0)=0 bit(1)=0 bit(511)=0 bit(512)=0 bit(4095)=0 bit(4096)=-2");
    sentence("bit b of s: bath b, the last one, too",
        "bath(0) ".repeat(8) + "add(0) row(1)=2 bit(0)=1 bit(256)=1 bit(1)=0 recipe(0,0,0) row(1)=3 bit(1)=1"
            + " bit(257)=0 row(2)=4 bit(257)=1");
    sentence("bit i of h: GOAL i, whichever bath it is",
        "add(0) add(0) add(0) goal(2) goal(0) goal(1) row(1)=20 bit(4)=0 bit(516)=1 bit(1)=0 bit(1025)=1 bit(2)=0"
            + " bit(2050)=1 bit(512)=1 bit(1024)=1 bit(2048)=1 bit(3584)=1 bit(3585)=1 bit(3586)=1 bit(3588)=1"
            + " bit(2052)=0");
    sentence("TOGETHER, h is always 0",
        "add(0) add(0) goal(0) goal(1) together(yes) row(2)=4 bit(0)=1 bit(1)=1 bit(2)=1 bit(3)=1 bit(513)=0"
            + " bit(512)=0");
    sentence("just the GOALS of h have STOOD: a bath that is no GOAL leaves h",
        "add(0) add(0) goal(1) row(1)=5 bit(1)=1 bit(513)=1 bit(2)=0 bit(514)=1 bit(512)=1");
  }

  private static void termsOfRefusals() {
    sentence("-10, -11, -12, -13: then nothing is done, so acts can still be taken back",
        RICH + "make(0) pour(0) recipe(4,0,-1)=-13 need(4,0,0)=-10 need(3,4,0)=-11 named(3,0,0)=-12"
            + " named(4,0,0)=-10 named(3,2,4)=-11 count(5)=2 undo()=1 undo()=0");
    sentence("asked in the order in which it is told: recipe()",
        RICH + "recipe(5,0,-1)=-2 recipe(-1,0,min)=-2 recipe(0,3,-1)=-2 recipe(0,-1,-1)=-2 recipe(0,0,-1)=-13"
            + " make(0) recipe(0,0,-1)=-2 recipe(4,2,min)=-2");
    sentence("asked in the order in which it is told: need()",
        RICH + "need(5,9,9)=-2 need(4,9,5)=-2 need(4,9,-2)=-2 need(4,9,4)=-10 need(3,4,3)=-11 need(3,-1,3)=-11"
            + " need(3,0,3)=-3 make(0) need(4,9,4)=-2 need(3,4,3)=-2 need(3,0,3)=-2");
    sentence("asked in the order in which it is told: named()",
        RICH + "named(5,0,9)=-2 named(4,3,9)=-2 named(4,0,9)=-10 named(3,3,9)=-2 named(3,0,9)=-12"
            + " named(3,1,-1)=-12 named(3,2,9)=-11");
  }

  // Promises 1 to 3

  private static void newObject() {
    sentence("1: no baths",
        "count(0)=0 of(0,0)=-2 why(0)=-2 make(0)=-2 pour(0)=-2 order(0)=-1 count(1)=0 reach(1)=1 reach(18)=1");
    sentence("1: no GOALS", "count(4)=0 forget()=0 least()=1 fewest(18)=0");
    sentence("1: not TOGETHER", "together(no)=0");
    sentence("1: not TOGETHER as yet", "together(yes)=0");
    sentence("1: 4 VATS", "count(2)=4 count(3)=4 vats(4)=4");
    sentence("1: an empty ROW", "count(6)=0 bit(0)=0 bit(4095)=0 check(1)=1 where()=0");
    sentence("1: nothing to take back, no RING, no check", "count(5)=0 undo()=-2 ring(0)=-1 where()=-1");
  }

  private static void vats() {
    sentence("2: how many there were", "vats(1)=4 vats(18)=1 vats(18)=18 vats(7)=18 count(2)=7 count(3)=7");
    sentence("2: -2 when n is not 1 .. 18",
        STANDING + each("vats(*)=-2", "min -18 -1 0 19 20 max") + "count(2)=5 vats(18)=5 count(2)=18");
    sentence("2: -2 when n is not 1 .. 18, in an empty works",
        each("vats(*)=-2", "min -1 0 19 max") + "vats(1)=4 vats(18)=1");
    sentence("2: or below those that are FILLED",
        STANDING + "vats(1)=-2 count(2)=5 vats(2)=5 count(3)=0 vats(1)=-2 vats(2)=2");
    sentence("2: FILLED by a DOUBLE", "add(2) make(0)=2 vats(1)=-2 vats(2)=4 count(3)=0 vats(1)=-2");
    sentence("2: FILLED by a FRAIL",
        "add(4) add(0) make(0)=2 vats(1)=-2 make(1)=2 vats(1)=-2 pour(1)=3 vats(1)=4 count(3)=0");
    sentence("2: FILLED no more", "add(0) add(0) make(0)=3 make(1)=2 vats(1)=-2 pour(0)=3 vats(1)=4 count(3)=0");
    sentence("2: all 18 are FILLED",
        "vats(18) " + "add(2) ".repeat(9) + "make(0)=16 make(1)=14 make(2)=12 make(3)=10 make(4)=8 make(5)=6"
            + " make(6)=4 make(7)=2 make(8)=0 vats(17)=-2 vats(18)=18 count(3)=0 pour(8)=2 vats(15)=-2"
            + " vats(16)=18 why(8)=5");
  }

  private static void bath() {
    sentence("3: -2 when there is no such KIND",
        RICH + each("bath(*)=-2", "min -1 5 max") + "count(0)=5 bath(4)=5 bath(0)=6 of(5,0)=4 of(6,0)=0");
    sentence("3: -2 when there is no such KIND, in an empty works",
        each("bath(*)=-2", "min -1 5 max") + "count(0)=0 bath(4)=0");
    sentence("3: -2 when there are 9",
        "bath(4) bath(3) bath(2) bath(1) bath(0) bath(0) bath(0) bath(0)=7 bath(4)=8"
            + each("bath(*)=-2", "min -1 0 1 2 3 4 5 max") + "count(0)=9 of(8,0)=4");
    sentence("3: a new bath has no RECIPE and doesn't STAND, also while others do",
        STANDING + "bath(2)=5 of(5,1)=0 of(5,2)=0 of(5,3)=-1 of(5,4)=-1 of(5,5)=0 count(5)=4 count(1)=2"
            + " count(3)=3");
  }

  // Promises 4 to 9

  private static void recipe() {
    sentence("4: -2 when there is no such bath",
        RICH + each("recipe(*,0,0)=-2", "min -1 5 8 9 max") + "recipe(0,0,1)=1 recipe(4,0,1)=1");
    sentence("4: -2 when there is no such bath, in an empty works", each("recipe(*,0,0)=-2", "min -1 0 1 9 max"));
    sentence("4: -2 when there is no such TYPE",
        RICH + each("recipe(3,*,0)=-2", "min -1 3 max") + "of(3,4)=2 recipe(3,0,0)=0 of(3,4)=0 recipe(3,2,0)=0"
            + " of(3,4)=2");
    sentence("4: -2 when a bath STANDS, be it any",
        STANDING + each("recipe(*,0,0)=-2", "0 1 2 3 4") + "pour(0) recipe(4,0,0)=-2 pour(2) recipe(4,0,0)=0");
    sentence("4: -2 when n is above 4",
        RICH + each("recipe(3,2,*)=-2", "5 6 max") + "named(3,2,3)=0 recipe(3,2,4)=4 named(3,2,3)=-1");
    sentence("4: -13 when n is below 0",
        RICH + each("recipe(3,0,*)=-13", "min -2 -1") + "of(3,3)=4 of(3,4)=2 named(3,2,3)=0 recipe(3,0,0)=0"
            + " of(3,3)=0 of(3,4)=0");
    sentence("4: -13 without a RECIPE leaves it without",
        RICH + "recipe(4,0,-1)=-13 of(4,3)=-1 named(4,0,0)=-10 why(4)=1");
    sentence("4: which name none",
        RICH + "why(3)=3 recipe(3,2,4)=4" + each(" named(3,2,*)=-1", "0 1 2 3") + "why(3)=0 order(3)=3");
    sentence("4: which name none, also those PLACES that a shorter one had not",
        RICH + "recipe(3,2,1)=1 named(3,2,1)=-11 recipe(3,2,4)=4 named(3,2,1)=-1 named(3,2,3)=-1");
    sentence("4: a SPENT one with a new RECIPE USES UP none",
        "add(0) add(1,0) recipe(1,0,1)=1 make(0)=3 make(1)=2 of(0,1)=1");
  }

  private static void lose() {
    sentence("5: 1 if it had one, else 0",
        RICH + "lose(4)=0 lose(3)=1 lose(3)=0 of(3,3)=-1 of(3,4)=-1 named(3,2,0)=-10 need(3,0,0)=-10");
    sentence("5: a RECIPE without PLACES is one, too", RICH + "lose(0)=1 lose(0)=0 why(0)=1");
    sentence("5: -2 when there is no such bath",
        RICH + each("lose(*)=-2", "min -1 5 9 max") + "lose(0)=1 lose(4)=0");
    sentence("5: -2 when there is no such bath, in an empty works", each("lose(*)=-2", "min -1 0 9 max"));
    sentence("5: -2 when a bath STANDS, be it any",
        STANDING + each("lose(*)=-2", "0 1 2 3 4") + "pour(0) lose(0)=-2 pour(2) lose(0)=1");
    sentence("5: no RECIPE any more: it NEEDS none, so there is no RING",
        "add(0) add(0,0) lose(1)=1 recipe(0,0,1) need(0,0,1)=-1");
    sentence("5: no RECIPE any more: others name it still",
        RICH + "lose(0)=1 named(3,2,3)=0 named(1,0,0)=0 order(0)=2 order(1)=-1");
    sentence("5: no RECIPE any more: the names don't come back",
        RICH + "lose(3)=1 recipe(3,2,4)=4" + each(" named(3,2,*)=-1", "0 1 2 3"));
  }

  private static void need() {
    sentence("6: what it named",
        RICH + "need(3,0,4)=-1 need(3,0,1)=4 need(3,0,-1)=1 need(3,0,-1)=-1 need(3,3,0)=0 need(3,1,0)=2"
            + " named(3,2,1)=0");
    sentence("6: -2 when there is no such bath", RICH + each("need(*,0,-1)=-2", "min -1 5 9 max"));
    sentence("6: -2 when there is no such bath, in an empty works", each("need(*,0,-1)=-2", "min -1 0 9 max"));
    sentence("6: -2 when other is not -1 or a bath",
        RICH + each("need(3,0,*)=-2", "min -3 -2 5 9 max") + "need(3,0,0)=-1 need(3,0,4)=0 need(3,0,-1)=4");
    sentence("6: -2 when a bath STANDS, be it any",
        STANDING + each("need(3,0,*)=-2", "-1 0 4") + "pour(0) need(3,0,4)=-2 pour(2) need(3,0,4)=-1");
    sentence("6: -10 without a RECIPE",
        RICH + each("need(4,*,-1)=-10", "min -1 0 3 4 max") + "lose(3) need(3,3,-1)=-10");
    sentence("6: -11 when it has no such PLACE",
        RICH + each("need(3,*,-1)=-11", "min -1 4 max") + "need(3,0,-1)=-1 need(3,3,-1)=0");
    sentence("6: -11 when it has no PLACE at all", RICH + each("need(0,*,-1)=-11", "min -1 0 1 max"));
  }

  private static void needRing() {
    sentence("6: -3 when there would be a RING with itself",
        RICH + "need(3,0,3)=-3 named(3,2,0)=-1 ring(0)=3 ring(1)=-1");
    sentence("6: -3, what it names stays",
        RICH + "recipe(0,0,1) need(0,0,4)=-1 need(0,0,3)=-3 named(0,0,0)=4 ring(0)=0 ring(1)=3 ring(2)=-1"
            + " order(0)=2");
    sentence("6: -3 in any PLACE, and by a need of any PLACE",
        "add(0) bath(0) recipe(1,0,4) need(1,3,0) recipe(0,0,4)" + each("need(0,*,1)=-3", "0 1 2 3"));
    sentence("6: no RING where the need is gone",
        "add(0) add(0,0) recipe(0,0,1) need(0,0,1)=-3 need(1,0,-1)=0 need(0,0,1)=-1 need(1,0,0)=-3");
    sentence("6: no RING of two that NEED the same", "add(0) add(0,0) add(0,0) add(0,1,2) named(3,0,1)=2");
    sentence("6: -3 leaves what can be taken back", RICH + "make(0) pour(0) need(3,0,3)=-3 count(5)=2");
  }

  private static void named() {
    sentence("7: -2 when there is no such bath",
        RICH + each("named(*,0,0)=-2", "min -1 5 9 max") + each("named(*,2,3)=-2", "min -1 5 9 max"));
    sentence("7: -2 when there is no such bath, in an empty works", each("named(*,0,0)=-2", "min -1 0 9 max"));
    sentence("7: -2 when there is no such TYPE",
        RICH + each("named(3,*,0)=-2", "min -1 3 max") + each("named(4,*,0)=-2", "min -1 3 max"));
    sentence("7: -10 without a RECIPE",
        RICH + each("named(4,*,0)=-10", "0 1 2") + each("named(4,0,*)=-10", "min -1 4 max"));
    sentence("7: -12 when it is of another TYPE",
        "bath(0) bath(0) bath(0) recipe(0,0,1) recipe(1,1,1) recipe(2,2,1) named(0,0,0)=-1 named(0,1,0)=-12"
            + " named(0,2,0)=-12 named(1,0,0)=-12 named(1,1,0)=-1 named(1,2,0)=-12 named(2,0,0)=-12"
            + " named(2,1,0)=-12 named(2,2,0)=-1");
    sentence("7: -11 when it has no such PLACE",
        RICH + each("named(3,2,*)=-11", "min -1 4 max") + "named(3,2,0)=-1 named(3,2,3)=0");
    sentence("7: -11 when it has no PLACE at all", RICH + each("named(0,0,*)=-11", "min -1 0 max"));
    sentence("7: also while a bath STANDS", STANDING + "named(3,2,3)=0 named(3,2,1)=2 named(4,0,0)=-10");
  }

  private static void ring() {
    String chain = "bath(0) ".repeat(9) + each("recipe(*,0,2)", "0 1 2 3 4 5 6 7 8")
        + "need(0,0,1) need(1,0,2) need(2,0,3) need(3,0,4) need(4,0,5) need(5,0,6) need(6,0,7) need(7,0,8) ";
    sentence("8: -1 when there is none such: no RING as yet", each("ring(*)=-1", "min -1 0 1 8 9 max"));
    sentence("8: -1 when there is none such: k", RICH + each("ring(*)=-1", "min -1 1 8 9 max") + "ring(0)=2");
    sentence("8: the longest, of 9",
        chain + "need(8,0,0)=-3 ring(0)=8 ring(1)=0 ring(2)=1 ring(3)=2 ring(4)=3 ring(5)=4 ring(6)=5 ring(7)=6"
            + " ring(8)=7" + each("ring(*)=-1", "9 10 max -1 min"));
    sentence("8: from the bath that would have needed on",
        chain + "need(4,1,2)=-3 ring(0)=4 ring(1)=2 ring(2)=3 ring(3)=-1");
    sentence("8: latest: a shorter one behind a longer one",
        chain + "need(8,0,0)=-3 need(5,1,5)=-3 ring(0)=5 ring(1)=-1 ring(8)=-1");
    sentence("8: latest: what else need() answers leaves it",
        chain + "need(1,1,0)=-3 need(8,0,-1)=-1 need(8,2,0)=-11 need(9,0,0)=-2 need(2,1,8)=-1 ring(0)=1 ring(1)=0"
            + " ring(2)=-1");
    sentence("8: latest: it stays when its needs are gone",
        chain + "need(1,1,0)=-3 lose(0)=1 need(1,1,0)=-1 bath(0)=-2 ring(0)=1 ring(1)=0 ring(2)=-1");
    sentence("8: the fewest that make a RING",
        chain + "need(0,1,6)=-1 need(7,1,0)=-3 ring(0)=7 ring(1)=0 ring(2)=6 ring(3)=-1");
    sentence("8: of such the one whose first bath that differs is least",
        "bath(0) ".repeat(6) + each("recipe(*,0,3)", "0 1 2 3 4 5") + "need(5,0,4) need(5,1,3) need(3,0,2)"
            + " need(3,1,1) need(4,0,1) need(1,0,0) need(2,0,0) need(0,0,5)=-3 ring(0)=0 ring(1)=5 ring(2)=3"
            + " ring(3)=1 ring(4)=-1 need(3,1,-1)=1 need(0,0,5)=-3 ring(2)=3 ring(3)=2 need(3,0,-1)=2"
            + " need(0,0,5)=-3 ring(2)=4 ring(3)=1");
    sentence("8: the least bath behind greater ones",
        "bath(0) bath(0) bath(0) recipe(0,0,1) recipe(1,0,1) recipe(2,0,1) need(2,0,0) need(0,0,1) need(1,0,2)=-3"
            + " ring(0)=1 ring(1)=2 ring(2)=0 ring(3)=-1");
    sentence("8: the last bath of 9, as any other: second, third and last of the RING",
        "bath(0) ".repeat(9) + each("recipe(*,0,2)", "0 1 3 8") + "need(0,0,8) need(8,0,1) need(1,0,3) need(3,0,0)=-3"
            + " ring(0)=3 ring(1)=0 ring(2)=8 ring(3)=1 ring(4)=-1 need(1,1,0)=-3 ring(0)=1 ring(1)=0 ring(2)=8"
            + " ring(3)=-1 need(1,1,8)=-3 ring(0)=1 ring(1)=8 ring(2)=-1 need(3,1,8)=-3 ring(0)=3 ring(1)=8"
            + " ring(2)=1 ring(3)=-1");
    sentence("8: with what would have been named: not with what the PLACE names",
        "add(0) add(0,0) bath(0) recipe(2,0,1) need(2,0,1)=-1 recipe(0,0,2) need(0,0,2)=-3 ring(0)=0 ring(1)=2"
            + " ring(2)=1 ring(3)=-1");
  }

  private static void order() {
    sentence("9: -1 when there is none such: no baths", each("order(*)=-1", "min -1 0 8 9 max"));
    sentence("9: -1 when there is none such: k",
        RICH + "order(0)=0 order(1)=1 order(2)=2 order(3)=3" + each(" order(*)=-1", "min -1 4 5 8 9 max"));
    sentence("9: all 9, the last first",
        "bath(0) ".repeat(9) + "recipe(8,0,0)" + each(" recipe(*,0,1)", "0 1 2 3 4 5 6 7")
            + "need(0,0,1) need(1,0,2) need(2,0,3) need(3,0,4) need(4,0,5) need(5,0,6) need(6,0,7) need(7,0,8)"
            + " order(0)=8 order(1)=7 order(2)=6 order(4)=4 order(7)=1 order(8)=0 order(9)=-1");
    sentence("9: again and again the least one",
        "bath(0) add(0) add(0) add(0) recipe(0,0,1) need(0,0,2) order(0)=1 order(1)=2 order(2)=0 order(3)=3"
            + " order(4)=-1");
    sentence("9: has a RECIPE",
        "bath(0) add(0) bath(0) order(0)=1 order(1)=-1 recipe(0,0,4) order(0)=0 order(1)=1 order(2)=-1");
    sentence("9: NEEDS such alone as are told",
        "bath(0) add(0) add(0,1,0) add(0,2) add(0,1) order(0)=1 order(1)=4 order(2)=-1");
    sentence("9: all can be made that ever can: also of KINDS that stand in each other's way",
        "add(3) add(3) add(1,0) add(3,0,1) order(0)=0 order(1)=1 order(2)=2 order(3)=3");
    sentence("9: what STANDS doesn't matter", STANDING + "order(0)=0 order(1)=1 order(2)=2 order(3)=3 order(4)=-1");
  }

  // Promises 10 to 12

  private static void goal() {
    sentence("10: how many there are", "bath(0) bath(0) bath(0) goal(2)=1 goal(0)=2 goal(1)=3 count(4)=3");
    sentence("10: -2 when there is no such bath",
        RICH + each("goal(*)=-2", "min -1 5 8 9 max") + "count(4)=2 goal(4)=3");
    sentence("10: -2 when there is no such bath, in an empty works",
        each("goal(*)=-2", "min -1 0 9 max") + "count(4)=0");
    sentence("10: -2 when it is a GOAL already", RICH + "goal(3)=-2 goal(1)=-2 count(4)=2 goal(0)=3 goal(0)=-2");
    sentence("10: -2 when there are 3",
        RICH + "goal(0)=3" + each(" goal(*)=-2", "min -1 0 1 2 3 4 5 max") + "count(4)=3");
    sentence("10: the least and the greatest bath", "bath(0) ".repeat(9) + "goal(8)=1 goal(0)=2 goal(9)=-2");
    sentence("10: also one that STANDS, or has no RECIPE", STANDING + "goal(2)=3 forget()=3 goal(4)=1 least()=-1");
  }

  private static void forget() {
    sentence("11: how many there were: none", "forget()=0 forget()=0 count(4)=0");
    sentence("11: how many there were: 3",
        "bath(0) bath(0) bath(0) goal(2) goal(0) goal(1) forget()=3 forget()=0 count(4)=0");
    sentence("11: no GOALS any more: each may become one again",
        RICH + "forget()=2 goal(3)=1 goal(1)=2 goal(0)=3 goal(2)=-2");
    sentence("11: no GOALS any more: a PLAN without acts REACHES",
        RICH + "forget()=2 least()=1 fewest(1)=0 plan(1,-1)=0");
    sentence("11: no GOALS any more: the next is GOAL 0",
        "add(0) add(0) goal(0) goal(1) forget()=2 goal(1)=1 row(1)=5 bit(514)=1 bit(512)=1 bit(513)=1 bit(2)=0"
            + " bit(1024)=0");
    sentence("11: TOGETHER, the ROW and the acts stay",
        STANDING + "together(yes)=0 forget()=2 together(yes)=1 bit(4095)=1 count(5)=4 count(1)=2");
  }

  private static void together() {
    sentence("12: 1 if it was, else 0",
        "together(no)=0 together(yes)=0 together(yes)=1 together(no)=1 together(no)=0");
    sentence("12: PLANS change with it, and back",
        "add(0) add(0) goal(0) goal(1) least()=1 together(yes)=0 least()=2 fewest(1)=-1 together(no)=1 least()=1"
            + " fewest(1)=2");
    sentence("12: one GOAL is as good TOGETHER",
        "add(0) add(0,0) goal(1) least()=2" + acts(2, 0, 1) + "together(yes) least()=2" + acts(2, 0, 1));
    sentence("12: the ROW stays",
        "add(0) goal(0) row(1)=3 bit(513)=1 together(yes) count(6)=3 bit(513)=1 bit(1)=0");
  }

  // Promises 13 to 16

  private static void make() {
    sentence("13: how many VATS are FREE then: to none",
        "add(0) add(0) add(0) add(0) add(0) make(0)=3 make(1)=2 make(2)=1 make(3)=0 make(4)=-2 count(1)=4");
    sentence("13: how many VATS are FREE then: more, where one is USED UP",
        "vats(2) add(2) add(1,0) make(0)=0 make(1)=1");
    sentence("13: how many VATS are FREE then: as many, where a FRAIL FILLS less",
        "vats(6) add(4) add(0) make(0)=4 make(1)=4");
    sentence("13: -2 when there is no such bath", STANDING + each("make(*)=-2", "min -1 5 8 9 max") + "count(5)=4");
    sentence("13: -2 when there is no such bath, in an empty works", each("make(*)=-2", "min -1 0 9 max"));
    sentence("13: -2 when it can't be done: 1", STANDING + "why(4)=1 make(4)=-2 of(4,5)=0");
    sentence("13: -2 when it can't be done: 2", STANDING + "why(2)=2 make(2)=-2 of(2,5)=1");
    sentence("13: -2 when it can't be done: 3", STANDING + "pour(0) why(3)=3 make(3)=-2 why(1)=3 make(1)=-2");
    sentence("13: -2 when it can't be done: 4",
        STANDING + "bath(3) pour(0) pour(2) recipe(5,0,0) make(2) why(5)=4 make(5)=-2 of(2,1)=1");
    sentence("13: -2 when it can't be done: 5", STANDING + "vats(2) why(3)=5 make(3)=-2 of(3,1)=0");
  }

  private static void why() {
    sentence("14: -2 when there is no such bath", STANDING + each("why(*)=-2", "min -1 5 8 9 max"));
    sentence("14: -2 when there is no such bath, in an empty works", each("why(*)=-2", "min -1 0 9 max"));
    sentence("14: 1 to 5; 0 when it can",
        "vats(2) bath(0) add(0) add(0,1) add(3) add(3) add(2) add(1,1) why(0)=1 why(2)=3 make(1)=1 why(1)=2"
            + " why(2)=0 make(3)=0 why(4)=4 why(5)=5 why(2)=5 why(6)=0");
    sentence("14: why, not done", STANDING + "why(1)=0 why(1)=0 of(1,1)=0 count(5)=4");
  }

  private static void pour() {
    sentence("15: how many VATS are FREE then: up to all",
        "add(0) add(2) add(0) make(0) make(1) make(2)=0 pour(2)=1 pour(1)=3 pour(0)=4");
    sentence("15: how many VATS are FREE then: of a FRAIL 2 or 1",
        "vats(9) add(4) add(0) make(0)=7 pour(0)=9 make(0)=7 make(1)=7 pour(0)=8");
    sentence("15: -2 when there is no such bath", STANDING + each("pour(*)=-2", "min -1 5 8 9 max"));
    sentence("15: -2 when there is no such bath, in an empty works", each("pour(*)=-2", "min -1 0 9 max"));
    sentence("15: -2 when it doesn't STAND: it never did, it was POURED out, USED UP, or taken back",
        STANDING + "pour(3)=-2 pour(4)=-2 pour(2)=4 pour(2)=-2 make(1)=4 pour(0)=-2 undo()=5 pour(1)=-2"
            + " count(1)=1");
    sentence("15: the last bath of all",
        "bath(0) ".repeat(9) + "recipe(8,0,0) make(8)=3 pour(7)=-2 pour(8)=4 pour(8)=-2");
  }

  private static void undo() {
    String works = "vats(6) add(4) add(1,0) add(0) ";
    sentence("16: -2 when none can: nothing was done",
        "undo()=-2 add(0) undo()=-2 make(1)=-2 pour(0)=-2 undo()=-2 count(5)=0");
    sentence("16: -2 when none can: all are taken back",
        "add(0) make(0)=3 undo()=0 undo()=-2 count(3)=4 of(0,5)=0");
    sentence("16: what is taken back can't come back",
        "add(0) make(0)=3 pour(0)=4 undo()=1 undo()=0 undo()=-2 count(1)=0");
    sentence("16: all FILLING as ahead of it: a FRAIL FILLS 2 again",
        works + "make(0)=4 make(2)=4 of(0,2)=1 undo()=1 of(0,2)=2 count(3)=4 why(2)=0");
    sentence("16: all FILLING as ahead of it: a FRAIL that was POURED out",
        works + "make(0)=4 pour(0)=6 undo()=1 of(0,2)=2 make(2)=4 pour(0)=5 undo()=2 of(0,2)=1");
    sentence("16: all STANDING as ahead of it: what was USED UP",
        works + "make(0)=4 make(1)=5 of(0,1)=0 undo()=1 of(0,1)=1 of(0,2)=2 of(1,1)=0");
    sentence("16: make() or pour() that was done: refused ones are none",
        works + "make(0)=4 make(0)=-2 pour(1)=-2 make(3)=-2 why(2)=0 count(5)=1 undo()=0 count(1)=0");
    sentence("16: bath() leaves them",
        works + "make(0)=4 bath(2)=3 bath(0)=4 count(5)=1 undo()=0 of(0,1)=0 count(0)=5");
    sentence("16: a make() taken back counts no more, a pour() leaves the count",
        works + "make(0) pour(0) make(0) of(0,5)=2 undo()=2 of(0,5)=1 undo()=1 of(0,5)=1 undo()=0 of(0,5)=0");
  }

  private static String undoneTo(int from, int to) {
    StringBuilder text = new StringBuilder();
    for (int left = from - 1; left >= to; left--) {
      text.append("undo()=" + left + " ");
    }
    return text.toString();
  }

  private static void undoHundred() {
    String two = "make(0)=3 pour(0)=4 ";
    sentence("16: of the latest 100: 99",
        "add(0)" + two.repeat(49) + "make(0)=3 count(5)=99 " + undoneTo(99, 0) + "undo()=-2 count(1)=0 of(0,5)=0");
    sentence("16: of the latest 100: just 100",
        "add(0)" + two.repeat(50) + "count(5)=100 " + undoneTo(100, 0) + "undo()=-2 count(1)=0 of(0,5)=0");
    sentence("16: of the latest 100: 101, of which the first stays",
        "add(0)" + two.repeat(50) + "make(0)=3 count(5)=100 " + undoneTo(100, 0) + "undo()=-2 of(0,1)=1 of(0,5)=1"
            + " count(3)=3");
    sentence("16: of the latest 100: 201",
        "add(0)" + two.repeat(100) + "make(0)=3 count(5)=100 of(0,5)=101 " + undoneTo(100, 0)
            + "undo()=-2 of(0,1)=1 of(0,5)=51");
    sentence("16: of the latest 100: some taken back, and others done",
        "add(0)" + two.repeat(50) + "make(0)=3 " + undoneTo(100, 70) + "count(5)=70 of(0,1)=1 pour(0)=4"
            + " count(5)=71 " + two.repeat(14) + "make(0)=3 count(5)=100 pour(0)=4 count(5)=100 "
            + undoneTo(100, 0) + "undo()=-2");
  }

  private static void undoCleared() {
    String done = RICH + "make(0)=4 pour(0)=5 count(5)=2 ";
    sentence("16: since the latest recipe() that was done",
        done + "recipe(4,3,0)=-2 recipe(4,0,-1)=-13 recipe(4,0,5)=-2 count(5)=2 recipe(4,0,0)=0 count(5)=0"
            + " undo()=-2");
    sentence("16: since the latest lose() that was done",
        done + "lose(5)=-2 lose(-1)=-2 count(5)=2 lose(3)=1 count(5)=0 undo()=-2");
    sentence("16: since the latest lose() that was done, without a RECIPE, too",
        done + "lose(4)=0 count(5)=0 undo()=-2");
    sentence("16: since the latest need() that was done",
        done + "need(4,0,0)=-10 need(3,4,0)=-11 need(3,0,5)=-2 need(3,0,3)=-3 count(5)=2 need(3,0,4)=-1"
            + " count(5)=0 undo()=-2");
    sentence("16: since the latest need() that was done, with the same name, too",
        done + "need(3,3,0)=0 count(5)=0 undo()=-2");
    sentence("16: since the latest vats() that was done",
        done + "make(0)=4 vats(0)=-2 vats(19)=-2 count(5)=3 vats(6)=5 count(5)=0 undo()=-2 of(0,1)=1");
    sentence("16: since the latest vats() that was done, with as many, too",
        done + "vats(5)=5 count(5)=0 undo()=-2");
    sentence("16: since: those behind it can",
        done + "vats(6)=5 make(0)=5 count(5)=1 undo()=0 undo()=-2 count(1)=0");
    sentence("16: other calls leave them",
        done + "goal(0) forget() together(yes) row(2) flip(9) check(2) least() count(5)=2 undo()=1 undo()=0");
  }

  // Promises 17 and 18

  private static void of() {
    sentence("17: -2 when there is no such bath",
        STANDING + each("of(*,0)=-2", "min -1 5 8 9 max") + each("of(*,6)=-2", "min -1 5 9 max"));
    sentence("17: -2 when there is no such bath, in an empty works", each("of(*,0)=-2", "min -1 0 9 max"));
    sentence("17: -2 when there is no such what",
        STANDING + each("of(0,*)=-2", "min -1 7 max") + "of(0,0)=0 of(0,6)=1 of(5,7)=-2");
    sentence("17: its KIND",
        "bath(0) bath(1) bath(2) bath(3) bath(4) of(0,0)=0 of(1,0)=1 of(2,0)=2 of(3,0)=3 of(4,0)=4");
    sentence("17: 1 if it STANDS, else 0", "add(2) of(0,1)=0 make(0) of(0,1)=1 pour(0) of(0,1)=0 undo() of(0,1)=1");
    sentence("17: how many VATS it FILLS, none if it doesn't STAND",
        "vats(9) add(0) add(2) add(4) of(0,2)=0 of(1,2)=0 of(2,2)=0 make(0) of(0,2)=1 make(1) of(1,2)=2 make(2)"
            + " of(2,2)=2 pour(1) of(1,2)=0 make(1) of(2,2)=1");
    sentence("17: how many PLACES its RECIPE has, -1 without",
        "bath(0) of(0,3)=-1 recipe(0,0,0) of(0,3)=0 recipe(0,0,4) of(0,3)=4 lose(0) of(0,3)=-1");
    sentence("17: the TYPE of that, -1 without",
        "bath(0) of(0,4)=-1 recipe(0,0,0) of(0,4)=0 recipe(0,2,0) of(0,4)=2 recipe(0,1,0) of(0,4)=1 lose(0)"
            + " of(0,4)=-1");
    sentence("17: how often it was made since the beginning",
        "add(0) of(0,5)=0 make(0) of(0,5)=1 make(0)=-2 of(0,5)=1 pour(0) make(0) of(0,5)=2 pour(0) recipe(0,0,0)"
            + " lose(0) vats(9) of(0,5)=2");
    sentence("17: less what was taken back",
        "add(0) add(1,0) make(0) make(1) of(0,5)=1 of(1,5)=1 undo()=1 of(0,5)=1 of(1,5)=0 undo()=0 of(0,5)=0");
    sentence("17: how much one of it is worth",
        "bath(0) bath(1) bath(2) bath(3) bath(4) of(0,6)=1 of(1,6)=3 of(2,6)=2 of(3,6)=4 of(4,6)=3");
  }

  private static void count() {
    sentence("18: -2 for another what", STANDING + each("count(*)=-2", "min -1 7 max"));
    sentence("18: -2 for another what, in an empty works",
        each("count(*)=-2", "min -1 7 max") + "count(0)=0 count(6)=0");
    sentence("18: baths",
        "count(0)=0 bath(0) count(0)=1 " + "bath(0) ".repeat(8) + "count(0)=9 bath(0)=-2 count(0)=9");
    sentence("18: that STAND, be they DOUBLE or FRAIL",
        "vats(9) add(2) add(4) count(1)=0 make(0) count(1)=1 make(1) count(1)=2 pour(0) count(1)=1");
    sentence("18: VATS", "count(2)=4 vats(1) count(2)=1 vats(18) count(2)=18 vats(19)=-2 count(2)=18");
    sentence("18: FREE ones", "count(3)=4 add(2) make(0) count(3)=2 vats(2) count(3)=0 vats(18) count(3)=16");
    sentence("18: GOALS",
        "bath(0) bath(0) bath(0) count(4)=0 goal(0) count(4)=1 goal(1) goal(2) count(4)=3 forget() count(4)=0");
    sentence("18: acts that can be taken back",
        "add(0) count(5)=0 make(0) count(5)=1 pour(0) count(5)=2 undo() count(5)=1 undo() count(5)=0");
    sentence("18: bits of the ROW that are 1",
        "count(6)=0 flip(0) flip(4095) count(6)=2 flip(0) count(6)=1 row(1)=1 count(6)=1 flip(0) count(6)=0");
  }

  // Promises 19 to 22

  private static void least() {
    sentence("19: 1, without GOALS", "least()=1 bath(0) bath(2) least()=1");
    sentence("19: 1, the least that there is", "add(0) goal(0) least()=1");
    sentence("19: 2 for a DOUBLE or a FRAIL alone",
        "add(2) goal(0) least()=2 add(4) goal(1) least()=2 forget() goal(1) least()=2");
    sentence("19: 16, all DOUBLE",
        "add(2) add(2,0) add(2,0,1) add(2,0,1,2) add(2,0,1,2,3) add(2,0,1,2,3) add(2,0,1,2,3) add(2,0,1,2,3)"
            + " add(2,4,5,6,7) goal(8) least()=16 fewest(15)=-1" + acts(16, 0, 1, 2, 3, 4, 5, 6, 7, 9, 8));
    sentence("19: -1 when there is none: no RECIPE",
        "bath(0) goal(0) least()=-1 recipe(0,0,0) least()=1 lose(0) least()=-1");
    sentence("19: -1 when there is none: one NEEDS what has no RECIPE",
        "bath(0) add(0,0) goal(1) least()=-1 recipe(0,0,0) least()=2");
    sentence("19: -1 when there is none: two STRONG ones TOGETHER",
        "add(3) add(3) goal(0) goal(1) least()=1 together(yes) least()=-1 fewest(18)=-1");
    sentence("19: -1 when there is none: one GOAL of 3",
        "add(0) add(0) bath(0) goal(0) goal(1) goal(2) least()=-1");
    sentence("19: what STANDS doesn't matter",
        "add(0) add(0,0) goal(1) make(0) make(1) least()=2 vats(18) least()=2");
  }

  private static void fewest() {
    String works = "add(0) add(0,0) goal(1) ";
    sentence("20: -2 when v is not 1 .. 18",
        works + each("fewest(*)=-2", "min -1 0 19 max") + "fewest(1)=-1 fewest(18)=2");
    sentence("20: -2 when v is not 1 .. 18, in an empty works",
        each("fewest(*)=-2", "min -1 0 19 max") + "fewest(1)=0 fewest(18)=0");
    sentence("20: -1 when none REACHES", works + "fewest(1)=-1 fewest(2)=2 lose(0) fewest(2)=-1 fewest(18)=-1");
    sentence("20: 0 without GOALS", works + "forget() fewest(1)=0 fewest(18)=0");
    sentence("20: a bath made twice counts twice",
        "add(1) add(1,0) add(1,0) add(0,1,2) goal(3) fewest(3)=5" + acts(3, 0, 1, 0, 2, 3));
    sentence("20: more with fewer VATS",
        "add(0) add(0,0) add(0,0) add(0,1) add(0,3,2) goal(4) goal(0) together(yes) fewest(2)=-1 fewest(3)=6"
            + " fewest(4)=5");
    sentence("20: POURS don't count", "add(0) add(0) add(0) goal(0) goal(1) goal(2) fewest(1)=3 plan(1,-1)=5");
  }

  private static void plan() {
    String works = "add(0) add(0,0) goal(1) ";
    sentence("21: -2 when v is not 1 .. 18",
        works + each("plan(*,-1)=-2", "min -1 0 19 max") + each("plan(*,0)=-2", "0 19")
            + "plan(1,0)=-1 plan(18,0)=0");
    sentence("21: -2 when k is below -1",
        works + each("plan(2,*)=-2", "min -3 -2") + each("plan(1,*)=-2", "min -2") + "plan(2,-1)=2 plan(0,-2)=-2");
    sentence("21: k -1: how many acts it has", works + "plan(2,-1)=2 plan(18,-1)=2");
    sentence("21: -1 when there is none such: no act",
        works + "plan(2,1)=1" + each(" plan(2,*)=-1", "2 3 100 max"));
    sentence("21: -1 when there is none such: no PLAN", works + each("plan(1,*)=-1", "-1 0 1 max"));
    sentence("21: an empty PLAN has 0 acts", "plan(1,-1)=0 plan(1,0)=-1 plan(18,max)=-1 plan(18,-2)=-2");
    sentence("21: for v VATS, by turns",
        works + acts(2, 0, 1) + "plan(1,-1)=-1" + acts(3, 0, 1) + "fewest(1)=-1 reach(2)=4 row(2)=6 plan(2,1)=1"
            + " plan(1,0)=-1");
    sentence("21: the BEST PLAN as things are now",
        works + acts(2, 0, 1) + "add(0) need(1,0,2)=0" + acts(2, 2, 1) + "need(1,0,-1)=2" + acts(2, 1) + "goal(0)"
            + acts(2, 0, 1) + acts(1, 0, 9, 1) + "together(yes) plan(1,0)=-1 lose(0) plan(2,-1)=-1 recipe(0,2,0)"
            + acts(2, 0, 1));
    sentence("21: the BEST PLAN as things are now: behind what fewest() and reach() told",
        works + "fewest(2)=2 reach(2)=4" + acts(2, 0, 1) + "fewest(2)=2 need(1,0,-1)=0" + acts(2, 1)
            + "fewest(3)=1 reach(3)=4" + acts(3, 1) + "goal(0) fewest(2)=2 forget()" + acts(2)
            + "goal(1) fewest(2)=1 recipe(1,0,1) need(1,0,0)" + acts(2, 0, 1));
    sentence("21: of 9 FRAIL ones, among the most ways",
        "add(4) ".repeat(6) + "add(4,0,1) add(4,2,3) add(4,4,5) goal(6) goal(7) goal(8) least()=5 fewest(9)=9"
            + acts(9, 0, 1, 2, 3, 4, 5, 6, 9, 7, 10, 8) + acts(8, 0, 1, 2, 3, 4, 6, 9, 5, 10, 7, 11, 8));
    sentence("21: a long one, of 83 acts",
        "add(2) add(2,0) add(2,1,1) add(2,2,1,-1) add(2,3,3,0,0) add(2,-1,3,-1,4) add(1,0,5,5,2) add(3,6,4,2,0)"
            + " add(1,1,2,7,6) goal(5) goal(8) goal(6) together(yes) least()=7 fewest(6)=-1 fewest(7)=46"
            + acts(7, 0, 1, 2, 9, 3, 10, 0, 11, 4, 9, 5, 12, 0, 13, 1, 9, 2, 10, 0, 6, 0, 14, 1, 9, 3, 10, 0, 11,
                4, 12, 1, 9, 2, 10, 0, 7, 13, 1, 9, 3, 10, 0, 11, 4, 9, 5, 12, 0, 13, 1, 9, 2, 10, 0, 6, 11, 0, 14,
                1, 9, 2, 8, 0, 15, 16, 1, 9, 3, 10, 0, 11, 4, 9, 5, 12, 0, 13, 1, 9, 2, 10, 0, 6));
  }

  private static void reach() {
    sentence("22: -2 when v is not 1 .. 18", RICH + each("reach(*)=-2", "min -1 0 19 max"));
    sentence("22: -2 when v is not 1 .. 18, in an empty works",
        each("reach(*)=-2", "min -1 0 19 max") + "reach(1)=1 reach(18)=1");
    sentence("22: (that one, too): where nothing can be made",
        "bath(0) add(0,0) reach(1)=1 reach(18)=1 add(2) reach(1)=1 reach(2)=2");
    sentence("22: with v VATS, 9 baths",
        "add(0) ".repeat(9) + "reach(1)=10 reach(2)=46 reach(8)=511 reach(9)=512 reach(18)=512");
    sentence("22: with v VATS, 9 DOUBLE ones",
        "add(2) ".repeat(9) + "reach(1)=1 reach(2)=10 reach(3)=10 reach(15)=502 reach(16)=511 reach(17)=511"
            + " reach(18)=512");
    sentence("22: STAND and FILL: a FRAIL that FILLS 1 or 2 is two ways",
        "add(4) add(0) reach(1)=2 reach(2)=3 reach(3)=6 reach(18)=6");
    sentence("22: STAND and FILL: 9 FRAIL ones, all ways",
        "add(4) ".repeat(9) + "reach(1)=1 reach(2)=10 reach(9)=2689 reach(10)=2797 reach(11)=2815 reach(18)=2815");
    sentence("22: GOALS that have STOOD are no other way",
        "add(0) add(0) goal(0) goal(1) reach(1)=3 reach(2)=4 together(yes) reach(2)=4");
    sentence("22: as things are now",
        "add(0) add(0,0) reach(2)=4 need(1,0,-1)=0 reach(1)=3 recipe(1,0,1) need(1,0,0) reach(1)=2 lose(1)"
            + " reach(1)=2 reach(2)=2 lose(0) reach(1)=1 add(2) reach(1)=1 reach(2)=2");
    sentence("22: when nothing STANDS at first", "add(0) add(0,0) make(0) make(1) reach(1)=2 reach(2)=4");
  }

  // Promises 23 to 27

  private static void row() {
    sentence("23: -2 when v is not 1 .. 18",
        RICH + each("row(*)=-2", "min -1 0 19 max") + "bit(4095)=1 row(1) bit(4095)=0 row(18)");
    sentence("23: -2 when v is not 1 .. 18, in an empty works",
        each("row(*)=-2", "min -1 0 19 max") + "row(1)=1 row(18)=1 bit(0)=1");
    sentence("23: -2 when a bath is DOUBLE", RICH + "bath(2)" + each(" row(*)=-2", "1 4 18") + "bit(4095)=1");
    sentence("23: -2 when a bath is FRAIL", RICH + "bath(4)" + each(" row(*)=-2", "1 4 18") + "bit(4095)=1");
    sentence("23: -2 when a bath is DOUBLE: the last of 9",
        "add(0) ".repeat(8) + "row(1)=9 bath(2)=8 row(1)=-2 count(6)=9 check(1)=-2");
    sentence("23: the ROW becomes that: what was 1 is gone",
        "flip(4095) flip(1) flip(0) row(1)=1 bit(0)=1 bit(1)=0 bit(4095)=0 count(6)=1");
    sentence("23: the fewest bits: bit 0 alone, where nothing can be made",
        "bath(0) add(0,0) goal(0) row(18)=1 bit(0)=1 count(6)=1 check(18)=0");
    sentence("23: the fewest bits: none for what could be made earlier",
        "add(0) add(0) row(18)=4 lose(1) row(18)=2 bit(1)=1 bit(2)=0 bit(3)=0 lose(0) row(18)=1");
    sentence("23: with v VATS", "add(0) ".repeat(9) + "row(1)=10 row(2)=46 row(8)=511 row(9)=512 row(18)=512");
    sentence("23: with v VATS: not with those that there are", "vats(1) add(0) add(0) row(2)=4 vats(18) row(1)=3");
    sentence("23: each act: MAKES, POURS and what is USED UP",
        "add(0) add(1,0) add(3) add(3,2) row(1)=5 bit(0)=1 bit(1)=1 bit(2)=1 bit(4)=1 bit(8)=1 row(2)=10 bit(3)=1"
            + " bit(5)=1 bit(9)=1 bit(6)=1 bit(10)=1 bit(12)=0");
    sentence("23: each act: also behind those that REACH the GOALS",
        "add(0) add(0,0) goal(0) row(1)=3 bit(512)=1 row(2)=5 bit(515)=1 bit(514)=1");
    sentence("23: the most, with 9 baths and 3 GOALS",
        "add(0) ".repeat(9) + "goal(8) goal(0) goal(4) row(18)=1728 count(6)=1728 bit(4095)=1 bit(511)=0");
  }

  private static void bit() {
    sentence("24: -2 when there is none such",
        RICH + each("bit(*)=-2", "min -4096 -1 4096 4097 max") + "bit(0)=1 bit(4095)=1");
    sentence("24: -2 when there is none such, in an empty works",
        each("bit(*)=-2", "min -1 4096 max") + "bit(0)=0 bit(4095)=0");
    sentence("24: 1 or 0", "flip(0) flip(4095) bit(0)=1 bit(1)=0 bit(4094)=0 bit(4095)=1");
    sentence("24: also for baths and GOALS that there are not", "bit(511)=0 bit(3584)=0 flip(511) bit(511)=1");
  }

  private static void flip() {
    sentence("25: -2 when there is none such", RICH + each("flip(*)=-2", "min -4096 -1 4096 4097 max"));
    sentence("25: -2 when there is none such, in an empty works",
        each("flip(*)=-2", "min -1 4096 max") + "count(6)=0");
    sentence("25: what it is then: the first and the last bit",
        "flip(0)=1 flip(0)=0 flip(0)=1 flip(4095)=1 flip(4095)=0 flip(4095)=1 count(6)=2");
    sentence("25: the other bits stay",
        "flip(2048)=1 bit(2047)=0 bit(2048)=1 bit(2049)=0 bit(0)=0 bit(4095)=0 count(6)=1");
    sentence("25: also with a DOUBLE and a FRAIL bath", "bath(2) bath(4) flip(3)=1 bit(3)=1 flip(3)=0");
    sentence("25: the baths stay as they STAND",
        STANDING + "flip(0)=0 flip(511)=1 count(1)=2 count(5)=4 of(0,1)=1");
  }

  private static void check() {
    sentence("26: -2 when v is not 1 .. 18", RICH + each("check(*)=-2", "min -1 0 19 max") + "check(1) check(18)");
    sentence("26: -2 when v is not 1 .. 18, in an empty works",
        each("check(*)=-2", "min -1 0 19 max") + "where()=-1 check(1)=1 check(18)=1");
    sentence("26: -2 when a bath is DOUBLE", RICH + "bath(2)" + each(" check(*)=-2", "1 4 18"));
    sentence("26: -2 when a bath is FRAIL", RICH + "bath(4)" + each(" check(*)=-2", "1 4 18"));
    sentence("26: 0 if so, for just so many VATS",
        "add(0) add(0) add(0,0,1) goal(2) row(2)=4 check(2)=0 check(1)=0 check(3)=4 where()=3 check(18)=4"
            + " row(3)=12 check(3)=2 where()=512");
    sentence("26: 0 if so, where some GOAL has STOOD",
        "add(0) add(0,0) bath(0) goal(0) goal(2) row(2)=5 bit(514)=1 bit(2)=0 check(2)=0 where()=-1");
    sentence("26: 1 bit 0 is 0", "check(1)=1 where()=0 bath(0) goal(0) check(1)=1 flip(0) check(1)=0 where()=-1");
    sentence("26: 1 bit 0 is 0, whatever else is at fault",
        "bath(0) goal(0) flip(512) flip(2) flip(4095) check(1)=1 where()=0 forget() check(1)=1 where()=0");
    sentence("26: the ROW stays", "add(0) goal(0) flip(0) flip(9) check(1)=4 count(6)=2 bit(0)=1 bit(9)=1");
    sentence("26: what STANDS and how many VATS there are doesn't matter",
        "add(0) add(0,0) goal(1) make(0) make(1) row(1)=2 check(1)=0 vats(18) check(1)=0 check(2)=4");
  }

  private static void checkFaults() {
    String works = "add(0) add(0,0) goal(1) row(1)=2 check(1)=0 ";
    sentence("26: 2 all GOALS have STOOD there",
        works + "flip(512)=1 check(1)=2 where()=512 flip(512)=0 check(1)=0");
    sentence("26: 2 all GOALS, not some",
        "bath(0) bath(0) bath(0) goal(0) goal(1) goal(2) row(18)=1 check(18)=0 flip(3072) check(18)=0 flip(3584)"
            + " check(18)=2 where()=3584");
    sentence("26: 2 have STOOD, not STAND", works + "flip(2)=1 check(1)=0 where()=-1");
    sentence("26: 2 TOGETHER: STAND",
        "bath(0) bath(0) goal(0) goal(1) together(yes) row(1)=1 flip(1) flip(2) check(1)=0 flip(3) check(1)=2"
            + " where()=3");
    sentence("26: 2 TOGETHER: STAND, not have STOOD",
        "bath(0) bath(0) goal(0) goal(1) together(yes) row(1)=1 flip(1536) check(1)=3 where()=1536");
    sentence("26: 2 without GOALS: any",
        "flip(0) check(1)=2 where()=0 together(yes) check(1)=2 where()=0 bath(0) check(18)=2 where()=0 goal(0)"
            + " check(18)=0");
    sentence("26: 3 it is for a bath that there is not: the first such, and the last",
        works + "flip(4) check(1)=3 where()=4 flip(4) flip(256) check(1)=3 where()=256 flip(256) flip(511)"
            + " check(1)=3 where()=511");
    sentence("26: 3 a bath that there is not: none, with 9",
        "bath(0) ".repeat(9) + "goal(8) flip(0) flip(256) check(1)=0 flip(255) check(1)=4 where()=255");
    sentence("26: 3 or a GOAL that there is not: the first such, and the last",
        works + "flip(1024) check(1)=3 where()=1024 flip(1024) flip(2048) check(1)=3 where()=2048");
    sentence("26: 3 or a GOAL that there is not: none, with 3",
        "bath(0) bath(0) bath(0) goal(0) goal(1) goal(2) flip(0) flip(2048) check(1)=0 flip(1024) check(1)=0"
            + " forget() goal(0) goal(1) check(1)=3 where()=2048");
    sentence("26: 3 TOGETHER: any h but 0",
        "bath(0) goal(0) together(yes) flip(0) check(1)=0 flip(512) check(1)=3 where()=512 flip(512) flip(1024)"
            + " check(1)=3 where()=1024 flip(1024) flip(2048) check(1)=3 where()=2048 flip(2048) check(1)=0");
    sentence("26: the first of these: 2 ahead of 3",
        works + "flip(516) check(1)=2 where()=516 flip(516) flip(1536) check(1)=2 where()=1536 together(yes)"
            + " flip(1536) flip(514) check(1)=2 where()=514");
    sentence("26: the first of these: 3 ahead of 4", works + "flip(5) check(1)=3 where()=5");
    sentence("26: the first of these: 2 ahead of 4", works + "flip(513) check(1)=2 where()=513");
    sentence("26: the least bit that is at fault, whichever fault it is",
        works + "flip(1)=0 flip(4) flip(512) check(1)=4 where()=0 flip(1)=1 check(1)=3 where()=4 flip(4)"
            + " check(1)=2 where()=512");
    sentence("26: the least bit that is at fault: the last of all",
        "bath(0) ".repeat(9) + "goal(0) goal(1) goal(2) row(18)=1 flip(4095) check(18)=2 where()=4095");
  }

  private static void checkActs() {
    sentence("26: 4 an act leads to where the bit is 0: a MAKE",
        "add(0) bath(0) goal(1) flip(0) check(1)=4 where()=0 flip(1) check(1)=0");
    sentence("26: 4 an act leads to where the bit is 0: a POUR",
        "bath(0) bath(0) bath(0) goal(2) flip(0) flip(1) check(1)=0 flip(3) check(1)=4 where()=3 flip(2)"
            + " check(1)=0");
    sentence("26: 4 an act leads to where the bit is 0: what it USES UP is gone",
        "add(0) add(1,0) bath(0) goal(2) flip(0) flip(1) check(1)=4 where()=1 flip(2) check(1)=0 check(2)=4"
            + " where()=2 flip(3) check(2)=0");
    sentence("26: 4 an act leads to where the bit is 0: a GOAL that STANDS has STOOD",
        "add(0) bath(0) goal(0) goal(1) flip(0) flip(1) check(1)=4 where()=0 flip(513) check(1)=4 where()=513"
            + " flip(512) check(1)=0 flip(1) check(1)=0");
    sentence("26: 4 with so many VATS: what is full makes none",
        "add(0) add(0) bath(0) goal(2) flip(0) flip(1) flip(2) check(1)=0 check(2)=4 where()=1 flip(3) check(2)=0"
            + " check(18)=0");
    sentence("26: 4 an act leads to where the bit is 0: behind a POUR of another, too, a GOAL that STANDS has STOOD",
        "bath(0) bath(0) bath(0) goal(0) goal(2) flip(0) flip(2) flip(3) flip(512) check(1)=4 where()=3 flip(513)"
            + " check(1)=0");
    sentence("26: 4 with so many VATS: where more STAND than there are, POURS alone lead on",
        "add(0) add(0) add(0) bath(0) goal(3) row(1)=4 check(1)=0 flip(3) check(1)=0 flip(7) check(1)=4 where()=7"
            + " flip(5) flip(6) check(1)=0 check(3)=0 flip(7) check(2)=0 check(3)=4 where()=3");
    sentence("26: 4 the last bath's acts, too",
        "bath(0) ".repeat(8) + "add(0) goal(0) flip(0) check(1)=4 where()=0 flip(256) check(1)=0 flip(0)"
            + " check(1)=1 flip(0) flip(384) check(1)=4 where()=384 flip(128) check(1)=0");
  }

  private static void where() {
    sentence("27: -1 when there was none: no check()", "where()=-1 flip(0) row(1) where()=-1");
    sentence("27: -1 when there was none: no fault",
        "bath(0) goal(0) check(1)=1 where()=0 row(1) check(1)=0 where()=-1");
    sentence("27: that wasn't refused",
        "check(0)=-2 where()=-1 check(1)=1 check(19)=-2 where()=0 bath(0) goal(0) flip(0) flip(9) check(1)=3"
            + " where()=9 check(min)=-2 where()=9 bath(2) check(1)=-2 where()=9");
    sentence("27: (0 with 1)", "flip(4095) check(1)=1 where()=0");
    sentence("27: of the latest check(): other calls leave it",
        "bath(0) goal(0) flip(0) flip(9) check(1)=3 flip(9) row(1) forget() together(yes) where()=9 check(1)=2"
            + " where()=0");
    sentence("27: a bit far up",
        "bath(0) goal(0) flip(0) flip(4094) check(1)=2 where()=4094 flip(4094) flip(3070) check(1)=2 where()=3070");
  }

  /** All that has a limit is at it. */
  private static void fullWorks() {
    sentence("9 baths of 4 PLACES, 3 GOALS, 18 VATS",
        "vats(18) add(0) add(0) add(0) add(0) add(1,3,2,1,0) add(3,0,1,2,3) add(0,0,1,2,3) add(1,6,5,4,3)"
            + " add(3,5,6,4,7) goal(8) goal(7) goal(6) bath(0)=-2 goal(0)=-2 recipe(8,0,5)=-2 vats(19)=-2"
            + " need(5,3,8)=-3 ring(0)=5 ring(1)=8 ring(2)=-1 named(8,0,3)=7 order(8)=8 make(0)=17 make(1)=16"
            + " make(2)=15 make(3)=14 make(4)=14 why(5)=3 make(3)=13 make(5)=13 make(0)=12 make(6)=11 why(8)=3"
            + " make(7)=11 why(8)=3 make(6)=10 why(8)=0 make(8)=10 count(1)=8 of(5,1)=0 why(5)=4 make(5)=-2"
            + " vats(8)=18 count(3)=0 vats(7)=-2");
  }

  /** One text of calls on one object. */
  private static final class Run {
    private static final Pattern CALL = Pattern.compile("(\\w+)\\(([^)]*)\\)(?:=(-?\\d+))?");
    private static final Set<String> QUESTIONS = Set.of("named", "ring", "order", "why", "of", "count", "least",
        "fewest", "plan", "reach", "bit", "where");
    /** A look takes back as many as 100 acts, with three calls for each, and an object has but 512. */
    private static final int MOST_LOOKED_BEHIND = 120;

    private final String told;
    private final Works works = new Works();
    private final List<Call> done = new ArrayList<>();
    private Look latest = null;

    Run(String told) {
      this.told = told;
    }

    void go(String text) {
      Matcher m = CALL.matcher(text);
      int end = 0;
      while (m.find()) {
        readable(text.substring(end, m.start()));
        end = m.end();
        int[] values = values(m.group(2));
        if (m.group(1).equals("add")) {
          add(values);
        } else {
          step(new Call(m.group(1), values), m.group(3) == null ? null : Integer.valueOf(m.group(3)));
        }
      }
      readable(text.substring(end));
    }

    private void readable(String between) {
      if (!between.isBlank()) {
        fault(told + ": can't be read: " + between);
      }
    }

    private static int[] values(String text) {
      if (text.isEmpty()) {
        return new int[0];
      }
      String[] parts = text.split(",");
      int[] row = new int[parts.length];
      for (int i = 0; i < row.length; i++) {
        row[i] = switch (parts[i]) {
          case "min" -> Integer.MIN_VALUE;
          case "max" -> Integer.MAX_VALUE;
          case "yes" -> 1;
          case "no" -> 0;
          default -> Integer.parseInt(parts[i]);
        };
      }
      return row;
    }

    private void add(int[] kindAndNames) {
      int b = step(new Call("bath", new int[] {kindAndNames[0]}), null);
      step(new Call("recipe", new int[] {b, 0, kindAndNames.length - 1}), kindAndNames.length - 1);
      for (int i = 1; i < kindAndNames.length; i++) {
        if (kindAndNames[i] != -1) {
          step(new Call("need", new int[] {b, i - 1, kindAndNames[i]}), -1);
        }
      }
    }

    private int step(Call call, Integer want) {
      int got = works.answer(call);
      if (want == null ? got < -1 : got != want) {
        fault(told + ": " + call + " answered " + got + ", due is " + (want == null ? "not to refuse" : want));
      }
      if (got < -1 || QUESTIONS.contains(call.name())) {
        changesNothing(call, got);
      } else {
        done.add(call);
        latest = null;
      }
      return got;
    }

    private void changesNothing(Call call, int answer) {
      if (done.size() > MOST_LOOKED_BEHIND) {
        return;
      }
      if (latest == null) {
        latest = Look.at(done);
      }
      List<Call> longer = new ArrayList<>(done);
      longer.add(call);
      Look then = Look.at(longer);
      boolean sameRing = answer == -3 || then.ring().equals(latest.ring());
      if (!sameRing || !then.rest().equals(latest.rest())) {
        fault(told + ": " + call + " answered " + answer + ", but changed something");
      }
      if (answer == -3) {
        latest = null;
        done.add(call);
      }
    }
  }

  private record Call(String name, int[] values) {
    @Override
    public String toString() {
      StringBuilder text = new StringBuilder(name).append('(');
      for (int i = 0; i < values.length; i++) {
        text.append(i == 0 ? "" : ", ").append(values[i]);
      }
      return text.append(')').toString();
    }
  }

  /** An object that tells when more calls are asked of it than the document allows. */
  private static final class Works {
    private static final int MOST_CALLS = 512;

    private final DyeVats x = new DyeVats();
    private int calls = 0;

    int left() {
      return MOST_CALLS - calls;
    }

    int answer(Call call) {
      return ask(call.name(), call.values());
    }

    int ask(String name, int... a) {
      if (++calls > MOST_CALLS) {
        fault("more than 512 calls: " + name);
      }
      return switch (name) {
        case "vats" -> x.vats(a[0]);
        case "bath" -> x.bath(a[0]);
        case "recipe" -> x.recipe(a[0], a[1], a[2]);
        case "lose" -> x.lose(a[0]);
        case "need" -> x.need(a[0], a[1], a[2]);
        case "named" -> x.named(a[0], a[1], a[2]);
        case "ring" -> x.ring(a[0]);
        case "order" -> x.order(a[0]);
        case "goal" -> x.goal(a[0]);
        case "forget" -> x.forget();
        case "together" -> x.together(a[0] == 1);
        case "make" -> x.make(a[0]);
        case "why" -> x.why(a[0]);
        case "pour" -> x.pour(a[0]);
        case "undo" -> x.undo();
        case "of" -> x.of(a[0], a[1]);
        case "count" -> x.count(a[0]);
        case "least" -> x.least();
        case "fewest" -> x.fewest(a[0]);
        case "plan" -> x.plan(a[0], a[1]);
        case "reach" -> x.reach(a[0]);
        case "row" -> x.row(a[0]);
        case "bit" -> x.bit(a[0]);
        case "flip" -> x.flip(a[0]);
        case "check" -> x.check(a[0]);
        case "where" -> x.where();
        default -> throw new IllegalArgumentException(name);
      };
    }
  }

  /**
   * What can be asked behind some calls, but for plans with more than the least vats and most of
   * reach(), which would take long; the objects that are asked are made anew for it.
   */
  private record Look(List<Integer> ring, List<Integer> rest) {
    private static final int BATHS = 9;

    static Look at(List<Call> calls) {
      Look look = new Look(new ArrayList<>(), new ArrayList<>());
      look.askWhatStands(again(calls));
      look.askRecipes(again(calls));
      look.askPlans(again(calls));
      look.takeBack(again(calls));
      look.askGoals(again(calls));
      look.askBits(calls);
      return look;
    }

    private static Works again(List<Call> calls) {
      Works works = new Works();
      for (Call call : calls) {
        works.answer(call);
      }
      return works;
    }

    private void askWhatStands(Works works) {
      for (int what = 0; what <= 6; what++) {
        rest.add(works.ask("count", what));
      }
      for (int b = 0; b < BATHS; b++) {
        rest.add(works.ask("why", b));
        for (int what = 0; what <= 6; what++) {
          rest.add(works.ask("of", b, what));
        }
      }
      rest.add(works.ask("where"));
    }

    private void askRecipes(Works works) {
      for (int b = 0; b < BATHS; b++) {
        int type = works.ask("of", b, 4);
        for (int i = 0; i < 4; i++) {
          rest.add(works.ask("named", b, type, i));
        }
        rest.add(works.ask("order", b));
        ring.add(works.ask("ring", b));
      }
    }

    private void askPlans(Works works) {
      int v = works.ask("least");
      rest.add(v);
      for (int k = -1; v >= 1 && k < 40; k++) {
        rest.add(works.ask("plan", v, k));
      }
      for (int vats = 1; vats <= 18; vats++) {
        rest.add(works.ask("fewest", vats));
      }
      rest.add(works.ask("reach", 2));
      rest.add(works.ask("reach", 18));
    }

    private void takeBack(Works works) {
      for (int left = works.ask("undo"); left >= 0; left = works.ask("undo")) {
        rest.add(left);
        rest.add(works.ask("count", 1));
        rest.add(works.ask("count", 3));
      }
      for (int b = 0; b < BATHS; b++) {
        rest.add(works.ask("of", b, 2));
        rest.add(works.ask("of", b, 5));
      }
    }

    /** Which baths the goals are shows in the row's bits. */
    private void askGoals(Works works) {
      rest.add(works.ask("together", 0));
      rest.add(works.ask("row", 2));
      for (int h = 512; h < 4096; h *= 2) {
        for (int b = 0; b < BATHS; b++) {
          rest.add(works.ask("bit", h + (1 << b)));
        }
      }
      for (int b = 0; b < BATHS; b++) {
        rest.add(works.ask("goal", b));
      }
      rest.add(works.ask("forget"));
    }

    private void askBits(List<Call> calls) {
      Works works = again(calls);
      for (int k = 0; k < 4096; k++) {
        if (works.left() == 0) {
          works = again(calls);
        }
        rest.add(works.ask("bit", k));
      }
    }
  }
}
