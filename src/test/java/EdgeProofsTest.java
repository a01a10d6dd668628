/** The boundary cases of promises 14 to 25: proofs, the KERNEL's calls, likeness of words, images. */
public final class EdgeProofsTest extends Rooms {
  private static final int[] FAR = {-1, -2, LOW, LOW + 1, HIGH, HIGH - 1};
  private static final int[] NO_SLOTS = {-1, 4, 5, -4, 256, LOW, LOW + 2, HIGH};
  /** LINES of these: 300, PROVED; 301 would be, GIVEN UP. */
  private static final String[] LINES_300 = {"(" + "a".repeat(23) + ")*", "(a+1)*+(" + "a".repeat(13) + ")*"};
  private static final String[] LINES_301 = {"(" + "a".repeat(25) + ")*", "(a+1)*+(aaaa)*+(aaa)*"};

  public static void main(String[] args) {
    proveTells();
    proveMakesLinesAnew();
    proveLeavesTheRest();
    apartTells();
    apartOfTheLatest();
    apartSince();
    apartNone();
    countLines();
    countPremisesOfNone();
    countLongest();
    countTape();
    countOthers();
    lineTells();
    lineWithoutRule();
    lineNoSuch();
    alterTells();
    alterAnyNumber();
    alterNoSuch();
    alterAlone();
    cutGoes();
    cutNone();
    checkTells();
    checkNoLines();
    whyTells();
    whyZero();
    whyOthers();
    sameTells();
    sameGivenUp();
    sameLeavesNothing();
    betweenTells();
    betweenNoSuch();
    imageTakes();
    imageNoSuch();
    againBrings();
    againNoSuch();
    end();
  }

  private static Prover proved(String[] sides) {
    return proved(sides[0], sides[1]);
  }

  /** LINES "0 1 1 1, 1 2 1 2, 0 12 1 1", accepted. */
  private static Prover ring() {
    return proved("(ab)*", "a(ba)*b+1");
  }

  /** LINES "0 1 1 1 2, 1 0 -1, 2 1 -1", separated by a. */
  private static Prover apart() {
    return proved("a+bb", "b*");
  }

  // ---- promise 14

  private static void proveTells() {
    says("14: SEARCH: 0 PROVED, 1 SEPARATED, 2 GIVEN UP");
    due("proved", of("a", "a+b").prove(), 0);
    due("separated", of("a+b", "a").prove(), 1);
    due("300 LINES", of(LINES_300[0], LINES_300[1]).prove(), 0);
    due("301 LINES", of(LINES_301[0], LINES_301[1]).prove(), 2);
    due("of a new object", new Prover().prove(), 0);
    due("0 in all", of("0", "1").prove(), 0);
    due("none in 0", of("1", "0").prove(), 1);
    Prover x = of("a", "b");
    due("again and again", x.prove() + " " + x.prove() + " " + x.prove(), "1 1 1");
  }

  private static void proveMakesLinesAnew() {
    says("14: LINES are those that there were at its end");
    Prover x = apart();
    String lines = linesOf(x);
    due("LINES", lines, "0 1 1 1 2, 1 0 -1, 2 1 -1");
    x.alter(0, 0, 7);
    x.alter(0, 1, 7);
    x.alter(0, 2, 7);
    x.alter(0, 10, 7);
    x.cut();
    x.prove();
    due("none of what was altered, cut stays", linesOf(x), lines);
    due("counts", x.count(0) + " " + x.count(1) + " " + x.count(2) + " " + x.count(3), "3 0 1 2");
    x.prove();
    due("not twice", x.count(0) + " " + x.count(3), "3 2");
    x = proved(LINES_301);
    put(x, 0, "a");
    put(x, 1, "a");
    x.prove();
    due("fewer than there were", linesOf(x) + ", " + x.line(1, 0), "0 1 0, -2");
    due("PREMISES", x.count(3), 0);
  }

  private static Prover roomAsProved() {
    Prover x = roomWithoutLines("", "ab)");
    x.prove();
    tape(x, TAPE);
    return x;
  }

  private static void proveLeavesTheRest() {
    says("14: prove() (SIDES, tape, FAULT, SLOTS, images are as they were)");
    leaves("prove", x -> x.prove(), 1, Rooms::room, EdgeProofsTest::roomAsProved);
    leaves("prove, without LINES", x -> x.prove(), 1, () -> roomWithoutLines(TAPE, "ab)"),
        EdgeProofsTest::roomAsProved);
  }

  // ---- promise 15

  private static void apartTells() {
    says("15: The SEPARATING word, what 0: how many LETTERS, 1 + i: the i-th one (1 a, 2 b, 3 c)");
    Prover x = proved("cab", "caa");
    due("how many", x.apart(0), 3);
    due("the LETTERS", x.apart(1) + " " + x.apart(2) + " " + x.apart(3), "3 1 2");
    x = proved("a*", "b");
    due("the empty word", x.apart(0) + " " + x.apart(1), "0 -1");
    x = proved(a(30), a(29) + "b");
    due("30 LETTERS", apartOf(x), "30 " + a(30));
    x = proved("(bbbbbbbbbbabbbbbbbbbbbbbbbb)*", "1+b*a*b*(bba)*b*ab*(a*b*)(1)");
    due("135 LETTERS", x.apart(0) + " " + x.apart(135) + " " + x.apart(136), "135 2 -1");
    due("the first, an a among them", x.apart(1) + " " + x.apart(10) + " " + x.apart(11) + " " + x.apart(12),
        "2 2 1 2");
  }

  private static void apartOfTheLatest() {
    says("15: of the latest prove()");
    Prover x = apart();
    x.cut();
    x.cut();
    x.cut();
    due("all LINES cut", apartOf(x), "1 a");
    x = apart();
    x.alter(1, 1, 1);
    x.alter(0, 0, LOW);
    due("altered", apartOf(x), "1 a");
    x.same();
    x.between(0, 1);
    x.between(1, 0);
    due("not of same(), between()", apartOf(x), "1 a");
    x.prove();
    due("once more", apartOf(x), "1 a");
    x = ring();
    x.same();
    due("none by same()", x.apart(0), -1);
  }

  private static void apartSince() {
    says("15: since the SIDES are so");
    Prover x = apart();
    put(x, 0, "a+bb");
    due("the same text on LEFT", x.apart(0), -1);
    x = apart();
    put(x, 1, "b*");
    due("the same text on RIGHT", x.apart(0), -1);
    x = apart();
    x.keep(0, 0);
    x.make(0, 0, 0, 0);
    due("made of the same", x.apart(0), -1);
    x = apart();
    x.swap();
    due("swap", x.apart(0), -1);
    x.swap();
    due("swap twice", x.apart(0), -1);
    x = apart();
    put(x, 0, "a+");
    put(x, 3, "a");
    x.make(0, 0, 4, 0);
    x.make(2, 0, 0, 0);
    due("calls that are refused", apartOf(x), "1 a");
  }

  private static void apartNone() {
    says("15: NONE: there is none, not so many");
    Prover x = of("a+bb", "b*");
    all("no prove() yet", -1, x.apart(0), x.apart(1));
    x.prove();
    due("the last one", x.apart(1), 1);
    all("not so many", -1, x.apart(2), x.apart(3), x.apart(HIGH));
    all("no such", -1, x.apart(-1), x.apart(-2), x.apart(LOW), x.apart(LOW + 1));
    x = ring();
    all("PROVED", -1, x.apart(0), x.apart(1));
    x = proved(LINES_301);
    all("GIVEN UP", -1, x.apart(0), x.apart(1));
    x = new Prover();
    all("a new object", -1, x.apart(0), x.apart(-1));
    nothing("apart(3)", r -> r.apart(3), -1);
    nothing("apart(-1)", r -> r.apart(-1), -1);
  }

  // ---- promise 16

  private static String counts(Prover x) {
    StringBuilder out = new StringBuilder();
    for (int what = 0; what < 7; what++) {
      out.append(what == 0 ? "" : " ").append(x.count(what));
    }
    return out.toString();
  }

  private static void countLines() {
    says("16: What 0: LINES, 1: those of RULE 0, 2: of RULE 1, 3: PREMISES of all");
    due("without LINES", counts(new Prover()), "0 0 0 0 0 0 0");
    Prover x = ring();
    due("of three", counts(x), "3 0 3 3 2 1 0");
    x.alter(0, 2, 0);
    due("by the RULE as it is", x.count(1) + " " + x.count(2), "1 2");
    x.alter(0, 2, 2);
    due("another RULE is neither", x.count(1) + " " + x.count(2), "0 2");
    x.alter(0, 2, -1);
    due("no RULE is neither", x.count(1) + " " + x.count(2), "0 2");
    due("PREMISES, whatever the RULE", x.count(3), 3);
    due("of 300", counts(proved(LINES_300)), "300 0 300 300 299 1 0");
    due("of a SEARCH that was given up", counts(proved(LINES_301)), "300 0 299 299 299 1 0");
    due("of one that ended", counts(apart()), "3 0 1 2 1 1 0");
    x = proved("a*a*a*a*a*a*a*a*a*a*a*a*a*a*a*", "(a+1)*");
    due("15 and 14 and .. and 1 PREMISES", x.count(0) + " " + x.count(3), "15 120");
  }

  private static void countPremisesOfNone() {
    says("16: 5: LINES that are PREMISES of none");
    Prover x = ring();
    due("LINE 0", x.count(5), 1);
    x.alter(2, 10, 0);
    due("none: LINE 0 is one of LINE 2", x.count(5), 0);
    x.alter(0, 10, 0);
    due("LINE 1", x.count(5), 1);
    x.alter(1, 10, 1);
    due("one of its own is one", x.count(5), 1);
    for (int v : new int[] {-1, 3, 300, LOW, HIGH}) {
      x.alter(2, 10, v);
      x.alter(0, 10, v);
      x.alter(1, 10, v);
      due("PREMISES that are no LINES: " + v, x.count(5), 3);
    }
    x.alter(1, 10, 2);
    due("the last LINE", x.count(5), 2);
    x = ring();
    x.cut();
    due("of LINES that are left", x.count(5), 1);
    x.cut();
    due("LINE 0 alone", x.count(5), 1);
    x.cut();
    due("no LINES", x.count(5), 0);
    due("all of 300 but one", proved(LINES_300).count(5), 1);
  }

  private static void countLongest() {
    says("16: 4: LETTERS of the longest WORD of a LINE (of the SEARCH, whatever was altered, cut; 0 without one)");
    Prover x = ring();
    due("two", x.count(4), 2);
    x.alter(2, 0, 1);
    x.alter(1, 10, 0);
    due("whatever was altered", x.count(4), 2);
    x.cut();
    x.cut();
    due("whatever was cut", x.count(4), 2);
    x.cut();
    due("all cut", x.count(4), 2);
    x.same();
    x.between(0, 1);
    due("not of same(), between()", x.count(4), 2);
    due("LINE 0 alone", proved("a", "a").count(4), 0);
    due("of one that is given up", proved(LINES_301).count(4), 299);
    due("of LINES that had no turn", apart().count(4), 1);
    due("without one", of("a", "b").count(4), 0);
    x = proved(LINES_300);
    put(x, 0, "a");
    due("without one, as the SIDE is new", x.count(4), 0);
    x = proved(LINES_300);
    x.swap();
    due("without one, behind swap()", x.count(4), 0);
    x = proved(LINES_300);
    put(x, 0, "a+");
    due("the SIDE stays", x.count(4), 299);
  }

  private static void countTape() {
    says("16: 6: bytes on the tape");
    Prover x = new Prover();
    for (int n : new int[] {0, 1, 7, 8, 9, 30, 31, 59, 60}) {
      x.has(0);
      tape(x, a(n));
      due(n + " bytes", x.count(6), n);
    }
    x.write(-1L);
    due("refused", x.count(6), 60);
    x.prove();
    x.swap();
    x.make(0, 0, 0, 0);
    due("others don't use it", x.count(6), 60);
    x.side(0);
    due("used", x.count(6), 0);
  }

  private static void countOthers() {
    says("16: NONE for another what");
    for (int what : new int[] {-1, 7, 8, 10, LOW, HIGH}) {
      all("count(" + what + ")", -1, ring().count(what), new Prover().count(what));
      nothing("count(" + what + ")", x -> x.count(what), -1);
    }
  }

  // ---- promise 17

  private static void lineTells() {
    says("17: Of a LINE, what 0: its TERM, 1: its SET, 2: its RULE, 3: how many PREMISES, 10 + i: the i-th");
    Prover x = proved("a*(b+1)a", "(a+b)*");
    due("LINES", linesOf(x), "0 1 1 0 1 2, 1 1 1, 2 1 1 1");
    due("the number of PREMISES", x.line(0, 3) + " " + x.line(1, 3) + " " + x.line(2, 3), "3 0 1");
    due("the last PREMISE", x.line(0, 12), 2);
    due("MEMBER", linesOf(proved("aa", "ab+aa")), "0 1 1 1, 1 6 0");
    x = proved(LINES_300);
    due("the last of 300", x.line(299, 0) + " " + x.line(299, 2) + " " + x.line(299, 3) + " " + x.line(299, 10),
        "0 1 1 1");
    x = proved(a(30), "b+" + a(28));
    due("TERM 28, its SET in bits", x.line(28, 0) + " " + x.line(28, 1), "28 4");
    due("TERM 29, a SET of nothing", x.line(29, 0) + " " + x.line(29, 1), "29 0");
  }

  private static void lineWithoutRule() {
    says("17: 2: its RULE (NONE: the SEARCH ended ahead of it, or at it; it has no PREMISES then)");
    Prover x = apart();
    due("at it", x.line(1, 2) + " " + x.line(1, 3) + " " + x.line(1, 10), "-1 0 -2");
    due("ahead of it", x.line(2, 2) + " " + x.line(2, 3) + " " + x.line(2, 10), "-1 0 -2");
    due("behind it", x.line(0, 2) + " " + x.line(0, 3) + " " + x.line(0, 11), "1 2 2");
    x = proved(LINES_301);
    due("given up at it", x.line(299, 2) + " " + x.line(299, 3) + " " + x.line(299, 10), "-1 0 -2");
    due("the one that was done", x.line(298, 2) + " " + x.line(298, 3), "1 1");
  }

  private static void lineNoSuch() {
    says("17: -2: there is none such (of any), another what");
    Prover x = apart();
    for (int line : new int[] {3, 4, 299, 300, 301, -1, -2, LOW, HIGH}) {
      all("LINE " + line, -2, x.line(line, 0), x.line(line, 1), x.line(line, 2), x.line(line, 3), x.line(line, 10),
          x.line(line, 9), x.line(line, -1));
    }
    for (int what : new int[] {4, 5, 9, 12, 13, 20, -1, -2, -10, LOW, LOW + 10, HIGH}) {
      all("what " + what, -2, x.line(0, what), x.line(1, what), x.line(2, what));
    }
    due("no PREMISE", x.line(1, 10), -2);
    x = new Prover();
    all("without LINES", -2, x.line(0, 0), x.line(0, 3), x.line(0, 10), x.line(-1, 0));
    x = proved(LINES_300);
    due("the last of 300", x.line(299, 2), 1);
    all("behind 300", -2, x.line(300, 0), x.line(300, 2), x.line(300, 10));
    x.cut();
    due("cut", x.line(299, 0), -2);
    due("the last that is left", x.line(298, 2), 1);
    nothing("line(300, 0)", r -> r.line(300, 0), -2);
    nothing("line(0, 12)", r -> r.line(0, 12), -2);
    nothing("line(0, 9)", r -> r.line(0, 9), -2);
  }

  // ---- promise 18

  private static void alterTells() {
    says("18: A LINE is altered: what 0: its TERM, 1: its SET, 2: its RULE, 10 + i: the i-th PREMISE is v: "
        + "what it was");
    Prover x = proved("a*(b+1)a", "(a+b)*");
    due("TERM", x.alter(2, 0, 5) + " " + x.line(2, 0), "2 5");
    due("SET", x.alter(2, 1, 6) + " " + x.line(2, 1), "1 6");
    due("RULE", x.alter(2, 2, 0) + " " + x.line(2, 2), "1 0");
    due("PREMISE", x.alter(2, 10, 7) + " " + x.line(2, 10), "1 7");
    due("the first PREMISE of three", x.alter(0, 10, 8), 0);
    due("the last PREMISE of three", x.alter(0, 12, 9), 2);
    due("LINES", linesOf(x), "0 1 1 8 1 9, 1 1 1, 5 6 0 7");
    due("what it was then", x.alter(2, 10, 1) + " " + x.alter(0, 12, 2), "7 9");
    x = apart();
    due("no RULE", x.alter(1, 2, 1), -1);
    due("it has one", x.line(1, 2) + " " + x.count(2), "1 2");
    x = proved(LINES_300);
    due("the last of 300", x.alter(299, 10, 5), 1);
    due("so it is", x.line(299, 10) + " " + x.line(298, 10), "5 299");
  }

  private static void alterAnyNumber() {
    says("18: (v may be any number)");
    for (int v : new int[] {LOW, LOW + 1, -2, -1, 0, 1, 2, 31, 32, 299, 300, 1 << 30, HIGH - 1, HIGH}) {
      Prover x = apart();
      due("TERM", x.alter(0, 0, v) + " " + x.line(0, 0), "0 " + v);
      due("SET", x.alter(0, 1, v) + " " + x.line(0, 1), "1 " + v);
      due("RULE", x.alter(0, 2, v) + " " + x.line(0, 2), "1 " + v);
      due("PREMISE", x.alter(0, 11, v) + " " + x.line(0, 11), "2 " + v);
      due("the others", lineOf(x, 1) + ", " + lineOf(x, 2), "1 0 -1, 2 1 -1");
      due("how many PREMISES", x.line(0, 3), 2);
      due("the KERNEL ends", x.check() >= 0 && x.why(0) > 0, true);
      due("count(5) ends", x.count(5) > 0, true);
    }
  }

  private static void alterNoSuch() {
    says("18: -2, and nothing happens: there is none such, another what");
    for (int line : FAR) {
      nothing("alter of LINE " + line, x -> x.alter(line, 0, 9), -2);
      nothing("alter of LINE " + line, x -> x.alter(line, 10, 9), -2);
    }
    for (int what : new int[] {3, 4, 9, 12, 13, -1, -10, LOW, LOW + 10, LOW + 11, HIGH}) {
      nothing("alter, what " + what, x -> x.alter(0, what, 9), -2);
    }
    Prover x = apart();
    all("LINE behind the last", -2, x.alter(3, 0, 9), x.alter(3, 1, 9), x.alter(3, 2, 9), x.alter(3, 10, 9));
    all("no PREMISES", -2, x.alter(1, 10, 9), x.alter(2, 10, 9), x.alter(0, 12, 9));
    due("the number of PREMISES is none to alter", x.alter(0, 3, 0), -2);
    due("nothing happened", linesOf(x), "0 1 1 1 2, 1 0 -1, 2 1 -1");
    due("the last LINE can be", x.alter(2, 0, 9), 2);
    x.cut();
    due("not when it is gone", x.alter(2, 0, 9), -2);
    x = proved(LINES_300);
    all("LINE 300", -2, x.alter(300, 0, 1), x.alter(300, 10, 1));
    due("accepted still", x.check(), -1);
    due("without LINES", new Prover().alter(0, 0, 0), -2);
  }

  private static void alterAlone() {
    says("18: A LINE is altered (all else is as it was)");
    leaves("alter there and back", x -> {
      int was = x.alter(1, 1, 77);
      return x.alter(1, 1, was);
    }, 77, Rooms::room, Rooms::room);
    leaves("alter of a PREMISE there and back", x -> {
      int was = x.alter(0, 10, LOW);
      return x.alter(0, 10, was);
    }, LOW, Rooms::room, Rooms::room);
  }

  // ---- promise 19

  private static void cutGoes() {
    says("19: The last LINE goes: how many are left");
    Prover x = ring();
    due("two left", x.cut() + " " + linesOf(x), "2 0 1 1 1, 1 2 1 2");
    due("counts", counts(x), "2 0 2 2 2 1 0");
    due("one left", x.cut() + " " + linesOf(x), "1 0 1 1 1");
    due("counts", counts(x), "1 0 1 1 2 1 0");
    due("none left", x.cut() + " " + linesOf(x), "0 ");
    due("counts", counts(x), "0 0 0 0 2 0 0");
    x.prove();
    due("proved anew", linesOf(x), "0 1 1 1, 1 2 1 2, 0 12 1 1");
    x = proved(LINES_300);
    due("299 left", x.cut() + " " + x.count(0) + " " + x.count(3), "299 299 299");
    due("a PREMISE that is gone", x.check() + " " + whyOf(x), "298 4 -1 0");
    x = proved("a*(b+1)a", "(a+b)*");
    x.alter(2, 10, 0);
    x.cut();
    due("with its PREMISES", x.count(3) + " " + x.count(5), "3 0");
  }

  private static void cutNone() {
    says("19: NONE: there was none");
    Prover x = proved("a", "a");
    due("one", x.cut(), 0);
    due("none", x.cut(), -1);
    due("none still", x.cut() + " " + x.count(0), "-1 0");
    due("of a new object", new Prover().cut(), -1);
    leaves("cut without LINES", r -> r.cut(), -1, () -> roomWithoutLines(TAPE, "ab)"),
        () -> roomWithoutLines(TAPE, "ab)"));
  }

  // ---- promise 20

  private static void checkTells() {
    says("20: The KERNEL: the first BAD LINE. NONE: it ACCEPTS");
    Prover x = ring();
    due("accepted", x.check(), -1);
    x.alter(2, 1, 0);
    due("the last", x.check(), 2);
    x.alter(0, 2, 5);
    due("the first", x.check(), 0);
    x = proved(LINES_300);
    due("300 are accepted", x.check(), -1);
    x.alter(299, 2, 5);
    due("the last of 300", x.check(), 299);
    due("the LINE at which it ended", apart().check(), 1);
    due("the LINE at which it was given up", proved(LINES_301).check(), 299);
    nothing("check", r -> r.check(), 0);
    nothing("check twice", r -> r.check() + r.check(), 0);
  }

  private static void checkNoLines() {
    says("20: -2: there are no LINES");
    due("a new object", new Prover().check(), -2);
    due("no prove()", of("a", "a").check(), -2);
    Prover x = proved("a", "a");
    due("one LINE", x.check(), -1);
    x.cut();
    due("cut", x.check(), -2);
    leaves("check without LINES", r -> r.check(), -2, () -> roomWithoutLines(TAPE, null),
        () -> roomWithoutLines(TAPE, null));
  }

  // ---- promise 21

  private static void whyTells() {
    says("21: Why the LINE that check() would tell is BAD, what 0: the reason, 1: the LETTER (1 to 3; of 5), "
        + "2: the PART (of 5), or which of its PREMISES (of 4, from 0), else NONE");
    Prover x = proved("a*(b+1)a", "(a+b)*");
    x.alter(0, 2, 9);
    due("1", whyOf(x), "1 -1 -1");
    x.alter(0, 2, 0);
    due("2", whyOf(x), "2 -1 -1");
    x.alter(0, 2, 1);
    x.alter(0, 12, 0);
    due("5: b, TERM 2", whyOf(x), "5 2 2");
    x.alter(0, 11, 0);
    due("5: a, TERM 1", whyOf(x), "5 1 1");
    x.alter(0, 10, 1);
    x.alter(0, 11, 1);
    x.alter(0, 12, 2);
    due("5: a, TERM 0", whyOf(x), "5 1 0");
    x.alter(0, 12, 3);
    due("4: the last of three", whyOf(x), "4 -1 2");
    x.alter(0, 10, -1);
    due("4: the first", whyOf(x), "4 -1 0");
    x = ring();
    x.alter(0, 1, 2);
    due("3", whyOf(x), "3 -1 -1");
    x.alter(0, 1, 3);
    due("6", whyOf(x), "6 -1 -1");
    x = proved("bc", "b(c+a)");
    x.alter(1, 10, 1);
    due("5: c, TERM 2", whyOf(x), "5 3 2");
    due("without check() ahead", proved("a", "b").why(0), 1);
    nothing("why(0)", r -> r.why(0), 4);
    nothing("why(1)", r -> r.why(1), -1);
    nothing("why(2)", r -> r.why(2), 1);
  }

  private static void whyZero() {
    says("21: 0: it ACCEPTS, there are no LINES");
    due("it ACCEPTS", whyOf(ring()), "0 0 0");
    due("300 LINES", whyOf(proved(LINES_300)), "0 0 0");
    due("a new object", whyOf(new Prover()), "0 0 0");
    Prover x = ring();
    x.alter(0, 2, 0);
    due("BAD", whyOf(x), "2 -1 -1");
    x.alter(0, 2, 1);
    due("it ACCEPTS again", whyOf(x), "0 0 0");
    x.alter(1, 10, 7);
    due("BAD", whyOf(x), "4 -1 0");
    x.cut();
    x.cut();
    x.cut();
    due("no LINES", whyOf(x), "0 0 0");
  }

  private static void whyOthers() {
    says("21: NONE for another what");
    for (int what : new int[] {-1, 3, 4, 10, LOW, HIGH}) {
      all("why(" + what + ")", -1, new Prover().why(what), ring().why(what), apart().why(what));
      nothing("why(" + what + ")", x -> x.why(what), -1);
    }
  }

  // ---- promise 22

  private static void sameTells() {
    says("22: Whether both SIDES have the same words: 1, 0");
    due("of a new object", new Prover().same(), 1);
    due("the same", of("(ab)*", "a(ba)*b+1").same(), 1);
    due("LIKE", of("a(b+c)", "a(b+c)").same(), 1);
    due("LEFT has one more", of("a+1", "a").same(), 0);
    due("RIGHT has one more", of("a", "a+1").same(), 0);
    due("LEFT has words, RIGHT none", of("a", "0").same(), 0);
    due("LEFT has none, RIGHT words", of("0", "a").same(), 0);
    due("each has one of its own", of("a", "b").same(), 0);
    due("by the longest word alone", of(a(30), a(29)).same(), 0);
  }

  private static void sameGivenUp() {
    says("22: 2: one was GIVEN UP, and none SEPARATED");
    String eleven = "(a+1)*+(" + a(11) + ")*";
    String rings = "(a+1)*+(aa)*+(aaa)*+(aaaaa)*";
    Prover x = of(eleven, rings);
    due("the first was", x.prove() + " " + x.same(), "2 2");
    x.swap();
    due("the second was", x.prove() + " " + x.same(), "0 2");
    x = of("(a+1)*+(aaa)*+(" + a(11) + ")*", "(a+1)*+(aa)*+(" + a(13) + ")*");
    due("both were", x.prove() + " " + x.same(), "2 2");
    x.swap();
    due("both were", x.prove() + " " + x.same(), "2 2");
    x = of("(" + a(11) + ")*", rings);
    due("the first was, the second SEPARATED", x.prove() + " " + x.same(), "2 0");
    x.swap();
    due("the first SEPARATED, the second was", x.prove() + " " + x.same(), "1 0");
    x = of(LINES_300[0] + "+a", LINES_300[1]);
    due("a SEARCH of 300 LINES is not", of(LINES_300[0], LINES_300[1]).same(), 0);
    due("one of more", x.prove() + " " + x.same(), "2 0");
  }

  private static void sameLeavesNothing() {
    says("22: (by two SEARCHES; nothing stays of them)");
    nothing("same", x -> x.same(), 0);
    leaves("same without LINES", x -> x.same(), 0, () -> roomWithoutLines(TAPE, null),
        () -> roomWithoutLines(TAPE, null));
    Prover x = proved(LINES_301);
    x.same();
    due("LINES", x.count(0) + " " + x.count(4) + " " + x.line(299, 2) + " " + x.apart(0), "300 299 -1 -1");
  }

  // ---- promise 23

  private static void betweenTells() {
    says("23: What the SEARCH of SLOTS would come to, one on the LEFT, the other on the RIGHT");
    Prover x = of("(ab)*", "(ab)*ab");
    x.keep(0, 0);
    x.keep(1, 3);
    put(x, 0, "b");
    put(x, 1, "c");
    due("one in the other", x.between(3, 0), 0);
    due("not the other way", x.between(0, 3), 1);
    due("a SLOT in itself", x.between(0, 0) + " " + x.between(3, 3), "0 0");
    due("0 in one", x.between(1, 3), 0);
    due("one in 0", x.between(3, 2), 1);
    x = of(LINES_301[0], LINES_301[1]);
    x.keep(0, 0);
    x.keep(1, 1);
    due("GIVEN UP", x.between(0, 1), 2);
    x = of(LINES_300[0], LINES_300[1]);
    x.keep(0, 0);
    x.keep(1, 1);
    due("300 LINES", x.between(0, 1), 0);
    nothing("between(0, 1) (nothing stays of it)", r -> r.between(0, 1), 1);
    nothing("between(2, 3) (nothing stays of it)", r -> r.between(2, 3), 0);
  }

  private static void betweenNoSuch() {
    says("23: NONE: no such ones");
    for (int slot : NO_SLOTS) {
      nothing("between(" + slot + ", 0)", x -> x.between(slot, 0), -1);
      nothing("between(0, " + slot + ")", x -> x.between(0, slot), -1);
      nothing("between(" + slot + ", " + slot + ")", x -> x.between(slot, slot), -1);
    }
    due("the last SLOTS", new Prover().between(3, 3), 0);
  }

  // ---- promise 24

  private static Prover roomWithImage(int k) {
    Prover x = room();
    x.image(k);
    return x;
  }

  private static void imageTakes() {
    says("24: Image k (0, 1) is all that is (the tape, the FAULT, LINES, SLOTS, too), as it is now: true");
    for (int k = 0; k < 2; k++) {
      int of = k;
      leaves("image(" + k + ") once more", x -> told(x.image(of)), 1, () -> roomWithImage(of),
          () -> roomWithImage(of));
    }
    Prover x = of("a", "b");
    x.image(0);
    put(x, 0, "aa");
    x.image(1);
    put(x, 0, "aaa");
    x.again(0);
    due("image 0", spelt(x, 0), "a");
    x.again(1);
    due("image 1", spelt(x, 0), "aa");
    x.image(0);
    put(x, 0, "b");
    x.again(0);
    due("image 0 as it was taken last", spelt(x, 0), "aa");
    x.alter(0, 0, 0);
    put(x, 0, "c");
    x.again(1);
    due("image 1 is its own", spelt(x, 0), "aa");
  }

  private static void imageNoSuch() {
    says("24: false for another k");
    for (int k : new int[] {-1, 2, 3, 256, LOW, LOW + 1, HIGH}) {
      nothing("image(" + k + ")", x -> told(x.image(k)), 0);
      Prover x = new Prover();
      x.image(k);
      due("it makes none", x.again(0) + " " + x.again(1) + " " + x.again(k), "false false false");
    }
  }

  // ---- promise 25

  private static Prover scrambled(int k) {
    Prover x = roomWithImage(k);
    x.side(0);
    put(x, 1, "c*");
    x.swap();
    x.keep(0, 0);
    x.keep(1, 2);
    put(x, 1, "+");
    x.prove();
    x.alter(0, 0, 5);
    tape(x, "cba");
    return x;
  }

  private static void againBrings() {
    says("25: All that is is as image k has it: true");
    for (int k = 0; k < 2; k++) {
      int of = k;
      leaves("again(" + k + ")", x -> told(x.again(of)), 1, () -> scrambled(of), () -> roomWithImage(of));
      leaves("again(" + k + ") twice", x -> told(x.again(of)) + told(x.again(of)), 2, () -> scrambled(of),
          () -> roomWithImage(of));
    }
    againOfManyTerms();
    Prover x = proved(LINES_300);
    x.image(0);
    x.cut();
    x.alter(0, 10, 7);
    x.alter(298, 1, 7);
    x.image(1);
    put(x, 0, "a");
    x.prove();
    due("300 LINES", x.again(0) + " " + counts(x) + " " + x.check(), "true 300 0 300 300 299 1 0 -1");
    due("299 LINES", x.again(1) + " " + counts(x) + " " + x.check(), "true 299 0 299 299 299 2 0 0");
    x.again(0);
    x.alter(5, 10, 9);
    x.cut();
    due("what is altered then is not the image's", x.again(0) + " " + x.check(), "true -1");
  }

  private static void againOfManyTerms() {
    Prover x = of(a(30), "bc+" + a(27));
    x.keep(0, 3);
    x.prove();
    x.image(1);
    put(x, 0, "(b*a+b)(a+b)c*a");
    put(x, 1, "cab+b*b*(b+a)*b*");
    x.keep(1, 3);
    x.prove();
    due("31 TERMS", x.again(1) + " " + x.shape(0, 0) + " " + x.term(0, 29, 2), "true 31 " + (1 << 30));
    due("LINES", x.count(0) + " " + x.count(3) + " " + apartOf(x), "31 30 30 " + a(30));
    x.prove();
    due("as they come anew", x.count(0) + " " + x.count(3) + " " + apartOf(x), "31 30 30 " + a(30));
    x.swap();
    due("the other way", x.prove() + " " + apartOf(x), "1 2 bc");
    due("the SLOT", x.make(0, 0, 3, 0), 31);
  }

  private static void againNoSuch() {
    says("25: false if there is none such");
    for (int k : new int[] {-1, 2, 3, 256, LOW, LOW + 1, HIGH}) {
      nothing("again(" + k + ")", x -> told(x.again(k)), 0);
    }
    Prover x = proved("a", "b");
    tape(x, "ab");
    due("no images", x.again(0) + " " + x.again(1), "false false");
    due("nothing happened", spelt(x, 0) + spelt(x, 1) + " " + linesOf(x) + " " + apartOf(x) + " " + x.count(6),
        "ab 0 1 1 1, 1 0 -1 1 a 2");
    x.image(1);
    x.cut();
    due("image 1 alone", x.again(0) + " " + x.count(0) + " " + x.again(1) + " " + x.count(0), "false 1 true 2");
    x = new Prover();
    x.image(0);
    due("image 0 alone", x.again(1) + " " + x.again(0), "false true");
  }
}
