import java.util.function.Consumer;

/** The boundary cases of Terms 3: LINES, the SEARCH, the KERNEL's reasons 1 to 6. */
public final class EdgeSearchTest extends Calls {
  public static void main(String[] args) {
    firstLine();
    member();
    separated();
    step();
    firstFit();
    proved();
    threeHundredLines();
    givenUpInTurn();
    linesThatCameStay();
    separatedAtTheLastLine();
    wordOfLine();
    reasonOneTerm();
    reasonOneSet();
    reasonOneRule();
    reasonOneOfMany();
    reasonTwo();
    reasonThree();
    reasonFour();
    reasonFive();
    reasonFiveSets();
    reasonSix();
    firstReason();
    firstBadLine();
    accepts();
    noLinesAnyMore();
    linesStay();
    end();
  }

  // ---- SEARCH

  private static void firstLine() {
    says("LINE 0 is of TERM 0 and the SET of TERM 0 alone");
    due("of 0", linesOf(proved("0", "0")), "0 1 0");
    due("of many TERMS", lineOf(proved(a(30), "b" + a(29)), 0), "0 1 1 1");
    due("of what comes to TERM 0 again", linesOf(proved("a*", "a*a*")), "0 1 1 0");
  }

  private static void member() {
    says("RULE 0 MEMBER: the TERM's SHAPE is LIKE one of the SET .. MEMBER, if it can be");
    due("of 0: MEMBER, though a STEP could be", linesOf(proved("0", "0")), "0 1 0");
    due("LIKE the only one", linesOf(proved("a(b+c)*", "a(b+c)*")), "0 1 0");
    due("LIKE the last of several", linesOf(proved("aa", "ab+aa")), "0 1 1 1, 1 6 0");
    due("LIKE the first of several", linesOf(proved("aa", "aa+ab")), "0 1 1 1, 1 6 0");
    due("LIKE a TERM that is not of the SET", linesOf(proved("a", "ba")), "0 1 1 1, 1 0 -1");
    due("not LIKE, the same words", linesOf(proved("a+b", "b+a")), "0 1 1 1 1, 1 2 0");
  }

  private static void separated() {
    says("else, if its TERM is FULL and none of its SET is, the SEARCH ends: SEPARATED");
    Prover x = of("1", "a");
    due("FULL, the only one is not", x.prove(), 1);
    due("it has no RULE", linesOf(x), "0 1 -1");
    x = of("1", "a+1");
    due("FULL, so is the only one", x.prove(), 0);
    due("a STEP without PREMISES", linesOf(x), "0 1 1");
    x = of("a", "b");
    due("not FULL, none is: it goes on", x.prove(), 1);
    due("FULL, nothing in its SET", linesOf(x), "0 1 1 1, 1 0 -1");
    x = of("a+ab", "ab+ac+a");
    due("FULL, the last of its SET is", x.prove(), 0);
    x = of("a+ab", "a+ac+ab");
    due("FULL, the first of its SET is", x.prove(), 0);
    x = of("a+ab", "ab+ac+aa");
    due("FULL, none of three is", x.prove(), 1);
    due("LINES behind it have no RULE", linesOf(proved("a+bb", "b*")), "0 1 1 1 2, 1 0 -1, 2 1 -1");
  }

  private static void step() {
    says("RULE 1 STEP: for a, b, c, for each of the TERM's PARTS by it, in order, a PREMISE");
    due("no PARTS", linesOf(proved("0", "a")), "0 1 1");
    due("a, b, c", lineOf(proved("cb+bc+aa", "(a+b+c)*"), 0), "0 1 1 1 2 3");
    due("PARTS in order", lineOf(proved("ab+ac+aa", "(a+b+c)*"), 0), "0 1 1 1 2 3");
    due("two PREMISES that are one LINE", lineOf(proved("ac+bc", "(a+b+c)*"), 0), "0 1 1 1 1");
    due("itself", lineOf(proved("(a+b)*", "(b+a)*"), 0), "0 1 1 0 0");
    Prover x = proved("a*a*a*a*a*a*a*a*a*a*a*a*a*a*a*", "(a+1)*");
    due("15 PARTS", lineOf(x, 0), "0 1 1 0 1 2 3 4 5 6 7 8 9 10 11 12 13 14");
    due("the KERNEL takes them", x.check(), -1);
    manyPremises();
  }

  /** 15 TERMS by rings of 19: many LINES, each with up to 15 PREMISES. */
  private static void manyPremises() {
    String left = "a*a*a*a*a*a*a*a*a*a*a*a*a*a*a*";
    String right = "(a+1)*+(" + a(19) + ")*";
    Oracle.Found want = Oracle.search(Oracle.read(left), Oracle.read(right));
    int all = 0;
    for (Oracle.Line line : want.lines) {
      all += line.premises.size();
    }
    Prover x = of(left, right);
    due("the SEARCH", x.prove(), want.outcome);
    due("LINES, PREMISES", x.count(0) + " " + x.count(3), want.lines.size() + " " + all);
    for (int i = want.lines.size() - 1; i >= 0 && x.calls() < Prover.PROMISED - 20; i -= 12) {
      Oracle.Line line = want.lines.get(i);
      due("LINE " + i, x.line(i, 0) + " " + x.line(i, 1) + " " + x.line(i, 3), line.term + " " + line.set + " "
          + line.premises.size());
      for (int j = 0; j < line.premises.size(); j++) {
        due("PREMISE " + j + " of LINE " + i, x.line(i, 10 + j), line.premises.get(j));
      }
    }
    due("the KERNEL", x.check(), Oracle.kernel(Oracle.read(left), Oracle.read(right), want.lines)[0]);
  }

  private static void firstFit() {
    says("the PREMISE of a PART by x is the first LINE with that TERM and a SET of which all are PARTS by x of "
        + "this LINE's SET; if there is none, a new LINE with just these");
    due("all of them", linesOf(proved("(ab)*", "a(ba)*b+1")), "0 1 1 1, 1 2 1 2, 0 12 1 1");
    due("some of them", linesOf(proved("a*", "a*a*")), "0 1 1 0");
    due("more than them: a new LINE", linesOf(proved("a*", "(a+1)(a+1)")), "0 1 1 1, 0 6 1 2, 0 4 1 3, 0 0 -1");
    due("the first of two", linesOf(proved("(a+b)*", "b*+b*ab*")), "0 1 1 1 1, 0 2 1 2 1, 0 0 -1");
    due("another TERM: a new LINE", linesOf(proved("ab+c", "(a+b+c)*")), "0 1 1 1 2, 1 1 1 2, 2 1 1");
    due("by another LETTER other ones", linesOf(proved("(a+b)*", "a+b*")),
        "0 1 1 1 2, 0 2 1 3 3, 0 4 1 3 2, 0 0 -1");
  }

  private static void proved() {
    says("PROVED: no LINE is left");
    Prover x = of("(ab)*", "a(ba)*b+1");
    due("proved", x.prove(), 0);
    due("each has a RULE", x.count(1) + x.count(2), x.count(0));
    x = of("b+aab", "b+aac");
    due("the last LINE of all separates", x.prove(), 1);
    due("by its WORD", apartOf(x), "3 aab");
  }

  private static void threeHundredLines() {
    says("GIVEN UP: a 301st LINE would come");
    Prover x = of("(" + a(23) + ")*", "(a+1)*+(" + a(13) + ")*");
    due("300 LINES", x.prove(), 0);
    due("300 LINES", x.count(0), 300);
    due("the last of them", lineOf(x, 299), "0 " + x.line(299, 1) + " 1 1");
    due("the KERNEL takes them", x.check(), -1);
    due("none behind", x.line(300, 0), -2);
    x = of("(" + a(25) + ")*", "(a+1)*+(aaaa)*+(aaa)*");
    due("301 LINES would be", x.prove(), 2);
    due("300 LINES", x.count(0), 300);
    due("none behind", x.line(300, 0), -2);
    due("no SEPARATING word", x.apart(0), -1);
  }

  private static void givenUpInTurn() {
    says("(the LINE in turn has no RULE, no PREMISES");
    Prover x = proved("(" + a(25) + ")*", "(a+1)*+(aaaa)*+(aaa)*");
    due("the one ahead of it", x.line(298, 2) + " " + x.line(298, 3) + " " + x.line(298, 10), "1 1 299");
    due("the LINE in turn", x.line(299, 2) + " " + x.line(299, 3) + " " + x.line(299, 10), "-1 0 -2");
    due("its TERM stays", x.line(299, 0), 24);
    due("RULES", x.count(1) + " " + x.count(2), "0 299");
    due("PREMISES", x.count(3), 299);
    due("the KERNEL", x.check() + " " + whyOf(x), "299 1 -1 -1");
  }

  private static void linesThatCameStay() {
    says("LINES that came by it stay)");
    Prover x = of("(" + a(23) + "+a)*", "(a+1)*+(aa)*+(aaa)*+(aaaaa)*");
    due("given up", x.prove(), 2);
    due("LINES", x.count(0), 300);
    due("the LINE in turn", x.line(276, 2) + " " + x.line(276, 3) + " " + x.line(276, 10), "-1 0 -2");
    due("the one ahead of it", x.line(275, 2) + " " + x.line(275, 3) + " " + x.line(275, 10), "1 2 298");
    due("the LINE that came by it", lineOf(x, 299), "1 1314 -1");
    due("LINES that are PREMISES of none: LINE 0 and that", x.count(5), 2);
    due("RULES", x.count(1) + x.count(2), 276);
    due("the longest WORD is that LINE's", x.count(4), 24);
  }

  private static void separatedAtTheLastLine() {
    says("GIVEN UP: a 301st LINE would come (not if the 300th ends the SEARCH)");
    Prover x = of("a*" + a(23), a(22));
    due("separated", x.prove(), 1);
    due("LINES", x.count(0), 300);
    due("at the last one", x.line(299, 2) + " " + x.line(298, 2), "-1 1");
    due("by its WORD", apartOf(x), "23 " + a(23));
    x = of("a*" + a(22) + "b", a(23));
    due("a LINE more: given up", x.prove(), 2);
    due("no word", x.apart(0), -1);
  }

  private static void wordOfLine() {
    says("WORD of a LINE: the LETTERS by which it came first; the SEPARATING word is that of the LINE at the end");
    due("by none", apartOf(proved("a*", "b")), "0 ");
    due("by each LETTER", apartOf(proved("abc", "abb")), "3 abc");
    due("came by aa, ab, ba: the first", apartOf(proved("(a+b)*", "a+b*")), "2 aa");
    due("came by b and c: the first", apartOf(proved("cb+bb", "a")), "2 bb");
    Prover x = proved("ccc+b+a", "c+b+a");
    due("the longest is not the last", x.count(4) + " " + apartOf(x), "3 3 ccc");
    x = proved("a+bbb", "bbb");
    due("the longest of all that came", x.count(4) + " " + apartOf(x), "1 1 a");
  }

  // ---- KERNEL

  /** LINES "0 1 1 1, 1 2 1 2, 0 12 1 1"; LEFT has 2 TERMS, 0 FULL, RIGHT 4, 0 and 3 FULL. */
  private static Prover ring() {
    return proved("(ab)*", "a(ba)*b+1");
  }

  /** LINES "0 1 1 0 1 2, 1 1 1, 2 1 1 1"; RIGHT has one TERM. */
  private static Prover threePremises() {
    return proved("a*(b+1)a", "(a+b)*");
  }

  private static String verdict(Prover x) {
    return x.check() + ": " + whyOf(x);
  }

  /** What the KERNEL says of one alteration, which is taken back then. */
  private static void altered(Prover x, int line, int what, int v, String want) {
    int was = x.alter(line, what, v);
    due("of LINE " + line + ", what " + what + " is " + v, verdict(x), want);
    due("what it was", x.alter(line, what, was), v);
    due("taken back", x.check(), -1);
  }

  private static void reasonOneTerm() {
    says("BAD: 1 its TERM can't be (no such TERMS)");
    Prover x = ring();
    for (int v : new int[] {2, 3, 31, 32, 33, -1, -2, LOW, HIGH}) {
      altered(x, 0, 0, v, "0: 1 -1 -1");
    }
    altered(x, 0, 0, 1, "0: 5 2 0");
    altered(x, 2, 0, 2, "1: 5 2 0");
  }

  private static void reasonOneSet() {
    says("BAD: 1 its SET can't be (no such TERMS)");
    Prover x = ring();
    for (int v : new int[] {16, 17, 32, 1 << 30, -1, -2, LOW, LOW + 1, HIGH}) {
      altered(x, 0, 1, v, "0: 1 -1 -1");
    }
    altered(x, 0, 1, 15, "0: 6 -1 -1");
    altered(x, 0, 1, 8, "0: 5 1 1");
    altered(x, 0, 1, 0, "0: 3 -1 -1");
  }

  private static void reasonOneRule() {
    says("BAD: 1 its RULE can't be (another RULE)");
    Prover x = ring();
    for (int v : new int[] {2, 3, -1, -2, LOW, HIGH}) {
      altered(x, 0, 2, v, "0: 1 -1 -1");
      altered(x, 2, 2, v, "2: 1 -1 -1");
    }
    altered(x, 0, 2, 0, "0: 2 -1 -1");
    x = proved("a", "b");
    due("the LINE at which it ended", verdict(x), "1: 1 -1 -1");
    x.alter(1, 2, 1);
    due("with RULE 1", verdict(x), "1: 3 -1 -1");
  }

  private static void reasonOneOfMany() {
    says("BAD: 1 (of 31 TERMS)");
    Prover x = proved(a(30), a(30));
    due("MEMBER", linesOf(x), "0 1 0");
    for (int v : new int[] {31, 32, 62, 63, 64, -1, -32}) {
      altered(x, 0, 0, v, "0: 1 -1 -1");
    }
    altered(x, 0, 0, 30, "0: 2 -1 -1");
    for (int v : new int[] {LOW, -1, LOW + 1}) {
      altered(x, 0, 1, v, "0: 1 -1 -1");
    }
    altered(x, 0, 1, HIGH, "0: 6 -1 -1");
    altered(x, 0, 1, 1 << 30, "0: 2 -1 -1");
    x.alter(0, 0, 30);
    x.alter(0, 1, 1 << 30);
    due("the last TERM, the last bit", verdict(x), "0: 6 -1 -1");
    x.alter(0, 2, 1);
    due("STEP of the last TERM, the last bit", verdict(x), "0: 6 -1 -1");
    x.alter(0, 1, HIGH);
    due("STEP of the last TERM, all bits", verdict(x), "0: 6 -1 -1");
    x.alter(0, 1, HIGH - (1 << 30));
    due("STEP of the last TERM, all bits but the last", verdict(x), "0: 3 -1 -1");
    x.alter(0, 0, 29);
    x.alter(0, 1, 1 << 29);
    due("STEP of the last but one, no PREMISE", verdict(x), "0: 5 1 30");
  }

  private static void reasonTwo() {
    says("BAD: 2 MEMBER: it is not so");
    Prover x = proved("ab", "ab");
    due("MEMBER", linesOf(x), "0 1 0");
    altered(x, 0, 1, 3, "0: 6 -1 -1");
    altered(x, 0, 1, 7, "0: 6 -1 -1");
    altered(x, 0, 1, 2, "0: 2 -1 -1");
    altered(x, 0, 1, 6, "0: 2 -1 -1");
    altered(x, 0, 1, 0, "0: 2 -1 -1");
    altered(x, 0, 0, 1, "0: 2 -1 -1");
    x.alter(0, 0, 1);
    x.alter(0, 1, 2);
    due("of another TERM it is so", verdict(x), "0: 6 -1 -1");
    x = ring();
    altered(x, 2, 2, 0, "2: 2 -1 -1");
    x = proved("ab", "ab+c");
    due("a STEP, then MEMBER", linesOf(x), "0 1 1 1, 1 2 0");
    x.alter(0, 0, 1);
    x.alter(0, 1, 2);
    x.alter(0, 2, 0);
    x.alter(0, 10, 42);
    due("MEMBER: PREMISES are not looked at", verdict(x), "0: 6 -1 -1");
  }

  private static void reasonThree() {
    says("BAD: 3 STEP: its TERM is FULL, none of its SET is");
    Prover x = ring();
    altered(x, 2, 1, 4, "2: 3 -1 -1");
    altered(x, 2, 1, 0, "2: 3 -1 -1");
    altered(x, 2, 1, 8, "2: 5 1 1");
    altered(x, 0, 1, 6, "0: 3 -1 -1");
    altered(x, 0, 1, 7, "0: 6 -1 -1");
    altered(x, 1, 1, 0, "1: 5 2 0");
    x = proved("1+b", "b+1+0c+c");
    altered(x, 0, 1, 0, "0: 3 -1 -1");
    x = proved("1", "a");
    x.alter(0, 2, 1);
    due("FULL, the only one is not", verdict(x), "0: 3 -1 -1");
  }

  private static void reasonFour() {
    says("BAD: 4 STEP: a PREMISE is no LINE");
    Prover x = ring();
    for (int v : new int[] {3, 4, 300, -1, -2, LOW, HIGH}) {
      altered(x, 1, 10, v, "1: 4 -1 0");
    }
    altered(x, 1, 10, 0, "1: 5 2 0");
    altered(x, 2, 10, 2, "2: 5 1 1");
    x = threePremises();
    altered(x, 0, 10, 3, "0: 4 -1 0");
    altered(x, 0, 11, -1, "0: 4 -1 1");
    altered(x, 0, 12, HIGH, "0: 4 -1 2");
    x.alter(0, 12, 3);
    x.alter(0, 11, 3);
    due("the first of two", verdict(x), "0: 4 -1 1");
    x = threePremises();
    x.cut();
    due("a LINE that is gone", verdict(x), "0: 4 -1 2");
    x.alter(0, 12, 1);
    due("one that is there", verdict(x), "0: 5 2 2");
    x = proved("(" + a(23) + ")*", "(a+1)*+(" + a(13) + ")*");
    altered(x, 299, 10, 300, "299: 4 -1 0");
    altered(x, 299, 10, 299, "299: 5 1 1");
  }

  private static void reasonFive() {
    says("BAD: 5 STEP: for a PART by a LETTER none of its PREMISES has that TERM");
    Prover x = threePremises();
    altered(x, 0, 10, 1, "0: 5 1 0");
    altered(x, 0, 11, 0, "0: 5 1 1");
    altered(x, 0, 12, 0, "0: 5 2 2");
    altered(x, 2, 10, 0, "2: 5 1 1");
    x.alter(0, 12, 0);
    x.alter(0, 11, 0);
    due("the first PART of two", verdict(x), "0: 5 1 1");
    x.alter(0, 10, 2);
    x.alter(0, 11, 1);
    due("PREMISES in another order", verdict(x), "-1: 0 0 0");
    x = proved("bc", "b(c+a)");
    due("LINES", linesOf(x), "0 1 1 1, 1 2 1 2, 2 4 0");
    altered(x, 1, 10, 1, "1: 5 3 2");
    x = proved("(" + a(25) + ")*", "(a+1)*+(aaaa)*+(aaa)*");
    x.alter(299, 2, 1);
    due("no PREMISES at all", verdict(x), "299: 5 1 0");
    x = proved("ac+bc", "(a+b+c)*");
    x.alter(0, 11, 0);
    due("one PREMISE for two PARTS", verdict(x), "-1: 0 0 0");
  }

  private static void reasonFiveSets() {
    says("BAD: 5 and a SET of which all are PARTS by that LETTER of its SET");
    Prover x = ring();
    altered(x, 1, 1, 6, "0: 5 1 1");
    altered(x, 1, 1, 3, "0: 5 1 1");
    altered(x, 1, 1, 4, "0: 5 1 1");
    altered(x, 1, 1, -1, "0: 5 1 1");
    altered(x, 1, 1, LOW, "0: 5 1 1");
    altered(x, 1, 1, 18, "0: 5 1 1");
    altered(x, 1, 1, 0, "1: 5 2 0");
    altered(x, 2, 1, 13, "1: 5 2 0");
    altered(x, 2, 1, 4, "2: 3 -1 -1");
    x = proved("a*b", "a*b+c");
    due("LINES", linesOf(x), "0 1 1 1 2, 0 2 0, 1 4 0");
    altered(x, 1, 1, 3, "0: 5 1 0");
    altered(x, 2, 1, 6, "0: 5 2 1");
  }

  private static void reasonSix() {
    says("LINE 0 is of TERM 0 and a SET of TERM 0 alone or of nothing (else LINE 0 is BAD, for reason 6, "
        + "behind all others)");
    Prover x = proved("0", "ab");
    due("TERM 0 alone", verdict(x), "-1: 0 0 0");
    altered(x, 0, 1, 2, "0: 6 -1 -1");
    altered(x, 0, 1, 3, "0: 6 -1 -1");
    altered(x, 0, 1, 7, "0: 6 -1 -1");
    altered(x, 0, 1, 8, "0: 1 -1 -1");
    x.alter(0, 1, 0);
    due("of nothing", verdict(x), "-1: 0 0 0");
    x = proved("ab", "ab+c");
    x.alter(0, 0, 1);
    x.alter(0, 1, 2);
    x.alter(0, 2, 0);
    due("another TERM", verdict(x), "0: 6 -1 -1");
    x.alter(1, 2, 5);
    due("behind all others: of LINE 1", verdict(x), "1: 1 -1 -1");
    x.alter(1, 2, 0);
    x.alter(1, 1, 1);
    due("behind all others: of LINE 1", verdict(x), "1: 2 -1 -1");
    x.alter(0, 1, 1);
    due("behind all others: of LINE 0", verdict(x), "0: 2 -1 -1");
  }

  private static void firstReason() {
    says("BAD, for the first of these reasons");
    Prover x = ring();
    x.alter(0, 2, 0);
    x.alter(0, 0, 2);
    due("1 ahead of 2", verdict(x), "0: 1 -1 -1");
    x = ring();
    x.alter(2, 1, 16);
    x.alter(2, 10, 42);
    x.alter(1, 10, 0);
    x.alter(1, 2, 0);
    x.alter(1, 0, LOW);
    due("1 ahead of 4, 5, by the PREMISE of LINE 0", verdict(x), "0: 5 1 1");
    x = ring();
    x.alter(0, 1, 16);
    x.alter(0, 10, 42);
    due("1 ahead of 3, 4", verdict(x), "0: 1 -1 -1");
    x.alter(0, 1, 2);
    due("3 ahead of 4", verdict(x), "0: 3 -1 -1");
    x.alter(0, 1, 1);
    due("then 4", verdict(x), "0: 4 -1 0");
    x = threePremises();
    x.alter(0, 10, 1);
    x.alter(0, 12, 3);
    due("4 ahead of 5", verdict(x), "0: 4 -1 2");
    x.alter(0, 12, 2);
    due("then 5", verdict(x), "0: 5 1 0");
  }

  private static void firstBadLine() {
    says("The KERNEL looks at each LINE that there is, in turn, by its own numbers");
    Prover x = ring();
    x.alter(2, 2, 9);
    due("the last one", verdict(x), "2: 1 -1 -1");
    x.alter(1, 10, 9);
    due("the first of two", verdict(x), "1: 4 -1 0");
    x.alter(0, 10, 9);
    due("the first of three", verdict(x), "0: 4 -1 0");
    x = proved("0+b", "b+0");
    due("LIKE", linesOf(x), "0 1 0");
    x = threePremises();
    x.alter(0, 2, 0);
    x.alter(0, 0, 1);
    due("LINE 0, though LINES behind it are good", verdict(x), "0: 2 -1 -1");
    x = proved("ab", "ab+c");
    x.alter(1, 2, 1);
    due("a STEP that has no PREMISES", verdict(x), "1: 5 2 2");
  }

  private static void accepts() {
    says("It ACCEPTS, if there are LINES, none is BAD");
    Prover x = ring();
    due("none is BAD", verdict(x), "-1: 0 0 0");
    x.cut();
    x.cut();
    x.cut();
    due("there are no LINES", verdict(x), "-2: 0 0 0");
    x = proved("a*", "a*a*");
    due("one LINE", verdict(x), "-1: 0 0 0");
    x.cut();
    due("that is gone", verdict(x), "-2: 0 0 0");
  }

  // ---- LINES that go

  private static void gone(String call, Consumer<Prover> act) {
    Prover x = proved("a+bb", "b*");
    x.keep(0, 0);
    act.accept(x);
    due("LINES behind " + call, x.count(0), 0);
    due("check behind " + call, verdict(x), "-2: 0 0 0");
    due("LINE 0 behind " + call, x.line(0, 0), -2);
    due("alter behind " + call, x.alter(0, 0, 0), -2);
    due("cut behind " + call, x.cut(), -1);
    due("apart behind " + call, x.apart(0), -1);
    due("counts behind " + call, x.count(1) + " " + x.count(2) + " " + x.count(3) + " " + x.count(4) + " "
        + x.count(5), "0 0 0 0 0");
  }

  private static void noLinesAnyMore() {
    says("A new EXPRESSION on a SIDE, swap(): there are no LINES any more");
    gone("side(0)", x -> put(x, 0, "a"));
    gone("side(1)", x -> put(x, 1, "a"));
    gone("side(0), the same text", x -> put(x, 0, "a+bb"));
    gone("side(1), the same text", x -> put(x, 1, "b*"));
    gone("make(0, 0)", x -> x.make(0, 0, 0, 0));
    gone("make(1, 0)", x -> x.make(1, 0, 0, 0));
    gone("make(0, 1)", x -> x.make(0, 1, 0, 0));
    gone("make(1, 2)", x -> x.make(1, 2, 0, 0));
    gone("make(1, 3)", x -> x.make(1, 3, 0, 0));
    gone("swap()", x -> x.swap());
  }

  private static void stay(String call, Consumer<Prover> act) {
    Prover x = proved("a+bb", "b*");
    act.accept(x);
    due("LINES behind " + call, linesOf(x), "0 1 1 1 2, 1 0 -1, 2 1 -1");
    due("apart behind " + call, apartOf(x), "1 a");
    due("the longest WORD behind " + call, x.count(4), 1);
  }

  private static void linesStay() {
    says("A new EXPRESSION on a SIDE, swap() (no other call): there are no LINES any more");
    stay("side with a FAULT", x -> put(x, 0, "a+"));
    stay("side of 31 bytes", x -> put(x, 1, a(31)));
    stay("no such SIDE", x -> put(x, 2, "a"));
    stay("a make that is refused", x -> x.make(0, 4, 0, 0));
    stay("keep", x -> x.keep(0, 0));
    stay("has", x -> has(x, 0, "a"));
    stay("write", x -> x.write(-1L));
    stay("check", x -> x.check());
    stay("same", x -> x.same());
    stay("between", x -> x.between(0, 1));
    stay("words", x -> x.words(5, 8));
    stay("image", x -> x.image(0));
    stay("image and again", x -> {
      x.image(0);
      x.swap();
      x.again(0);
    });
  }
}
