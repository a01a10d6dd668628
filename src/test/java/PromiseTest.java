/** Each promise of the document: ordinary inputs, the edges that it names, and wrong inputs. */
public final class PromiseTest extends Calls {
  public static void main(String[] args) {
    newObject();
    write();
    side();
    fault();
    swap();
    keep();
    make();
    shape();
    term();
    like();
    has();
    words();
    word();
    prove();
    apart();
    count();
    line();
    alter();
    cut();
    check();
    why();
    same();
    between();
    image();
    again();
    end();
  }

  private static void newObject() {
    says("promise 1");
    Prover x = new Prover();
    for (int side = 0; side < 2; side++) {
      due("a new side", spelt(x, side), "0");
      due("its terms", x.shape(side, 0), 1);
      due("its parts", x.term(side, 0, 2) + x.term(side, 0, 3) + x.term(side, 0, 4), 0);
      due("its term", termSpelt(x, side, 0), "0");
    }
    due("lines", x.count(0), 0);
    due("check", x.check(), -2);
    due("tape", x.count(6), 0);
    due("fault", x.fault(), -1);
    due("apart", x.apart(0), -1);
    for (int slot = 0; slot < 4; slot++) {
      due("slot", x.make(1, 0, slot, 9), 1);
      due("slot", spelt(x, 1), "0");
    }
    due("no image", x.again(0) || x.again(1), false);
  }

  private static void write() {
    says("promise 2");
    Prover x = new Prover();
    due("nothing", x.write(0), 0);
    due("up to the first 0", x.write(0x6100626364656667L), 1);
    due("the last byte", x.write(0x6162636465666768L), 9);
    due("of high bytes", x.write(-1L), 17);
    due("0 ahead", x.write(0x0061626364656667L), 17);
    for (int i = 0; i < 5; i++) {
      x.write(-1L);
    }
    due("57", x.count(6), 57);
    due("too many", x.write(0x6161616100000000L), -1);
    due("nothing came", x.count(6), 57);
    due("just 60", x.write(0x6161610000000000L), 60);
    due("61", x.write(0x6100000000000000L), -1);
    due("none more", x.write(0L), 60);
  }

  private static void side() {
    says("promise 3");
    Prover x = new Prover();
    due("30 letters", put(x, 0, "abcabcabcabcabcabcabcabcabcabc"), 31);
    due("tape is empty", x.count(6), 0);
    x.prove();
    due("no such side", put(x, 2, "a"), -1);
    due("tape is empty", x.count(6), 0);
    due("no such side", put(x, -1, "a+"), -1);
    due("no fault", x.fault(), -1);
    due("a fault", put(x, 0, "a++b"), -1);
    due("tape is empty", x.count(6), 0);
    due("the side stays", x.shape(0, 2), 30);
    due("the lines stay", x.count(0) > 0, true);
    due("a new one", put(x, 1, "b"), 2);
    due("no lines", x.count(0), 0);
    due("nothing", x.side(0), -1);
    due("shape", shapeOf("0a+b(1c)+b c"), "bc");
    due("shape", shapeOf("(a*)*+1*"), "a*+1");
    due("shape", shapeOf("a+(b+(c+a))+b"), "a+b+c");
    due("shape", shapeOf("a(b(c(a+b)))"), "abc(a+b)");
    due("shape", shapeOf("(a+b)1+c"), "a+b+c");
    due("shape", shapeOf("a0b+0*"), "1");
    due("shape", shapeOf("(1+1)*(0+0)"), "0");
    due("shape", shapeOf("((ab)*)**"), "(ab)*");
    due("shape", shapeOf("(a+b)*(ab+0)*((c))*"), "(a+b)*(ab)*c*");
    due("shape", shapeOf("a+b+a b+ba+ab"), "a+b+ab+ba");
    due("shape", shapeOf("aa*a"), "aa*a");
    due("shape", shapeOf("1*+(1+a)*"), "1+(1+a)*");
    due("shape", shapeOf("(ab)(c1)+((abc))"), "abc");
  }

  private static void fault() {
    says("promise 4");
    due("none", faultAt("(a+b)*c"), -1);
    due("none", faultAt("  a  * ( b )  "), -1);
    due("the end", faultAt(""), 0);
    due("the end", faultAt("   "), 3);
    due("the end", faultAt("a+ "), 3);
    due("the end", faultAt("((a)"), 4);
    due("bracket", faultAt("a)"), 1);
    due("bracket", faultAt("a+()"), 3);
    due("star", faultAt("*"), 0);
    due("star", faultAt("a+ *"), 3);
    due("star", faultAt("(*a)"), 1);
    due("plus", faultAt("+a"), 0);
    due("plus", faultAt("a++b"), 2);
    due("other byte", faultAt("abd"), 2);
    due("other byte", faultAt("ab2"), 2);
    due("other byte", faultAt("a\u00ff"), 1);
    due("other byte", faultAt("a\tb"), 1);
    due("other byte", faultAt("aB"), 1);
    due("30 bytes", faultAt("a".repeat(30)), -1);
    due("31 bytes", faultAt("a".repeat(31)), 30);
    due("31 bytes, the last a blank", faultAt("a".repeat(30) + " "), 30);
    due("60 bytes, the fault behind", faultAt("a".repeat(40) + ")" + "a".repeat(19)), 30);
    due("60 bytes, the fault at 29", faultAt("a".repeat(29) + ")" + "a".repeat(30)), 29);
    due("brackets", faultAt("(".repeat(60)), 30);
    due("brackets", faultAt("(".repeat(20)), 20);
    due("brackets", faultAt("(".repeat(14) + "a" + ")".repeat(14)), -1);
    Prover x = new Prover();
    put(x, 0, "a+");
    x.make(0, 0, 0, 0);
    tape(x, "a");
    x.has(0);
    due("the latest side's", x.fault(), 2);
    put(x, 1, "a");
    due("the latest side's", x.fault(), -1);
    put(x, 1, "ab+");
    due("the latest side's", x.fault(), 3);
    put(x, 2, "a+");
    due("no such side: without", x.fault(), -1);
  }

  private static void swap() {
    says("promise 5");
    Prover x = of("ab", "c*");
    x.prove();
    x.swap();
    due("left", spelt(x, 0), "c*");
    due("right", spelt(x, 1), "ab");
    due("lines", x.count(0), 0);
    due("apart", x.apart(0), -1);
    due("the longest word", x.count(4), 0);
    due("prove", x.prove(), 1);
    due("apart", apartOf(x), "0 ");
  }

  private static void keep() {
    says("promise 6");
    Prover x = of("ab", "c*");
    due("keep", x.keep(0, 0) && x.keep(1, 3), true);
    due("no such", x.keep(2, 0) || x.keep(-1, 0) || x.keep(0, 4) || x.keep(0, -1), false);
    put(x, 0, "1");
    put(x, 1, "1");
    x.make(0, 0, 0, 0);
    x.make(1, 0, 3, 0);
    due("left", spelt(x, 0), "ab");
    due("right", spelt(x, 1), "c*");
    due("keep over", x.keep(1, 0), true);
    x.make(0, 0, 0, 0);
    due("the new one", spelt(x, 0), "c*");
  }

  private static void make() {
    says("promise 7");
    Prover x = of("a+b", "b+c");
    x.keep(0, 0);
    x.keep(1, 1);
    x.prove();
    due("sum", x.make(0, 1, 0, 1), 2);
    due("sum", spelt(x, 0), "a+b+c");
    due("no lines", x.count(0), 0);
    due("product", x.make(0, 2, 0, 1), 3);
    due("product", spelt(x, 0), "(a+b)(b+c)");
    due("star", x.make(1, 3, 1, LOW), 1);
    due("star", spelt(x, 1), "(b+c)*");
    due("as kept", x.make(1, 0, 0, HIGH), 2);
    due("as kept", spelt(x, 1), "a+b");
    due("product with 0", x.make(0, 2, 0, 2), 1);
    due("product with 0", spelt(x, 0), "0");
    due("star of 0", x.make(0, 3, 2, 2), 1);
    due("star of 0", spelt(x, 0), "1");
    x.prove();
    due("no side", x.make(2, 0, 0, 0) + x.make(-1, 0, 0, 0), -2);
    due("no slot", x.make(0, 0, 4, 0) + x.make(0, 0, -1, 0) + x.make(0, 1, 0, 4) + x.make(0, 2, 0, -1), -4);
    due("no what", x.make(0, 4, 0, 0) + x.make(0, -1, 0, 0), -2);
    due("it stays", spelt(x, 0), "1");
    due("the lines stay", x.count(0) > 0, true);
    makeLong();
  }

  private static void makeLong() {
    Prover x = of("aaaaaaaaaaaaaaa", "bbbbbbbbbbbbbbb");
    x.keep(0, 0);
    x.keep(1, 1);
    due("30 bytes", x.make(0, 2, 0, 1), 31);
    due("31 bytes", x.make(0, 1, 0, 1), -1);
    due("it stays", spelt(x, 0), "aaaaaaaaaaaaaaabbbbbbbbbbbbbbb");
    x.keep(0, 2);
    due("60 bytes", x.make(1, 2, 2, 2), -1);
    due("the same twice", x.make(1, 1, 2, 2), 31);
    due("33 bytes", x.make(1, 3, 2, 0), -1);
    put(x, 0, "a".repeat(27));
    x.keep(0, 3);
    due("just 30", x.make(1, 3, 3, 0), 27);
    due("just 30", x.shape(1, 2), 30);
    due("tape and fault are not touched", x.fault(), -1);
  }

  private static void shape() {
    says("promise 8");
    Prover x = of("(a*b+1)*c(a+bc)", "ab+c");
    due("terms", x.shape(0, 0), 5);
    due("full", x.shape(0, 1), 0);
    due("bytes", x.shape(0, 2), 15);
    due("letters", x.shape(0, 3), 6);
    due("stars", x.shape(0, 4), 2);
    due("no words", x.shape(0, 5), 0);
    due("finite", x.shape(0, 6), 0);
    due("shortest", x.shape(0, 7), 2);
    due("nest", x.shape(0, 8), 2);
    due("9", x.shape(0, 9), -1);
    due("first byte", x.shape(0, 10), '(');
    due("last byte", x.shape(0, 24), ')');
    due("behind it", x.shape(0, 25), -1);
    due("finite", x.shape(1, 6), 1);
    due("shortest", x.shape(1, 7), 1);
    due("nest", x.shape(1, 8), 0);
    due("no such side", x.shape(2, 0) + x.shape(-1, 2), -2);
    due("no such what", x.shape(0, -1) + x.shape(0, LOW) + x.shape(0, HIGH) + x.shape(0, 40), -4);
    put(x, 0, "1");
    due("1", x.shape(0, 0) + x.shape(0, 1) + x.shape(0, 6), 3);
    due("1", x.shape(0, 5) + x.shape(0, 7), 0);
    put(x, 0, "0");
    due("0 is finite", x.shape(0, 6), 1);
    due("0 has no words", x.shape(0, 5), 1);
    due("0 has no shortest", x.shape(0, 7), -1);
    put(x, 0, "(((a*b)*c)*a)*b*");
    due("nest", x.shape(0, 8), 4);
    due("stars", x.shape(0, 4), 5);
    due("full", x.shape(0, 1), 1);
  }

  private static void term() {
    says("promise 9");
    due("terms", terms("(a+b)c*"), "(a+b)c* c*");
    due("terms", terms("(ab)*"), "(ab)* b(ab)*");
    due("terms", terms("a(ba)*b+1"), "a(ba)*b+1 (ba)*b a(ba)*b 1");
    due("terms", terms("a(b+c)"), "a(b+c) b+c 1");
    due("terms", terms("(a*b*)*"), "(a*b*)* a*b*(a*b*)* b*(a*b*)*");
    due("terms", terms("ba+ab"), "ba+ab b a 1");
    due("terms", terms("(a+b)*a(a+b)"), "(a+b)*a(a+b) a+b 1");
    due("terms by a ahead of b", terms("bc+ac*"), "bc+ac* c* c 1");
    due("terms in order", terms("a*(b+1)a"), "a*(b+1)a 1 a");
    Prover x = of("a*(b+1)a", "0");
    due("not full", x.term(0, 0, 0), 0);
    due("full", x.term(0, 1, 0), 1);
    due("by a", x.term(0, 0, 2), 3);
    due("by b", x.term(0, 0, 3), 4);
    due("by c", x.term(0, 0, 4), 0);
    due("by a", x.term(0, 2, 2), 2);
    due("no what", x.term(0, 0, 5) + x.term(0, 0, 9) + x.term(0, 0, -1) + x.term(0, 0, LOW), -4);
    due("no term", x.term(0, 3, 0) + x.term(0, -1, 0) + x.term(0, HIGH, 0) + x.term(0, LOW, 10), -4);
    due("no side", x.term(2, 0, 0) + x.term(-1, 0, 0), -2);
    due("no byte", x.term(0, 0, 18) + x.term(0, 0, HIGH) + x.term(0, 1, 11), -3);
    due("31 terms", put(x, 0, "abcabcabcabcabcabcabcabcabcabc"), 31);
    due("the highest bit", x.term(0, 29, 4), 1 << 30);
    due("long terms", termSpelt(of("(((((((a*b)*b)*b)*b)*b)*b)*b)*", "0"), 0, 1),
        "a*b(a*b)*b((a*b)*b)*b(((a*b)*b)*b)*b((((a*b)*b)*b)*b)*b(((((a*b)*b)*b)*b)*b)*b"
        + "((((((a*b)*b)*b)*b)*b)*b)*b(((((((a*b)*b)*b)*b)*b)*b)*b)*");
  }

  private static void like() {
    says("promise 10");
    Prover x = of("abc", "ca+bc");
    // left: abc bc c 1; right: ca+bc c a 1
    due("left's like right's 1", x.like(0, 1), 2);
    due("left's like right's 3", x.like(0, 3), 3);
    due("left's like right's 2", x.like(0, 2), -1);
    due("right's like left's 2", x.like(1, 2), 1);
    due("right's like left's 3", x.like(1, 3), 3);
    due("right's like left's 0", x.like(1, 0), -1);
    due("none such", x.like(0, 4) + x.like(1, -1) + x.like(0, LOW) + x.like(0, HIGH), -4);
    due("no side", x.like(2, 0) + x.like(-1, 0), -2);
    x = of("a+b", "b+a");
    due("another order is not like", x.like(0, 0), -1);
  }

  private static void has() {
    says("promise 11");
    Prover x = of("(a+b)*a(a+b)", "a*");
    due("in", has(x, 0, "bbab") && has(x, 0, "aa") && has(x, 0, "a".repeat(30)), true);
    due("not in", has(x, 0, "abb") || has(x, 0, "a") || has(x, 0, "") || has(x, 0, "aac"), false);
    due("empty", has(x, 1, ""), true);
    due("30", has(x, 1, "a".repeat(30)), true);
    due("31", has(x, 1, "a".repeat(31)), false);
    due("no word", has(x, 1, "a a") || has(x, 1, "A") || has(x, 1, "d") || has(x, 1, "a\u00ff"), false);
    due("no side", has(x, 2, "a") || has(x, -1, ""), false);
  }

  private static void words() {
    says("promise 12");
    Prover x = of("(a+b)*", "(b+c)*a");
    int[] due3 = {8, 4, 1, 7, 3, 16};
    for (int i = 0; i < 6; i++) {
      due("words " + i, x.words(i, 3), due3[i]);
    }
    due("both 0", x.words(2, 0), 0);
    due("left 0", x.words(0, 0), 1);
    due("8", x.words(0, 8), 256);
    due("neither of 8", x.words(5, 8), 6561 - 256 - 128 + 1);
    due("no which", x.words(6, 1) + x.words(-1, 1) + x.words(LOW, 1), -3);
    due("no n", x.words(0, 9) + x.words(0, -1) + x.words(0, HIGH), -3);
    x = new Prover();
    due("neither of 0", x.words(5, 0) + x.words(5, 1) + x.words(5, 8), 6565);
  }

  private static void word() {
    says("promise 13");
    Prover x = of("(a+b)*", "(b+c)*a");
    due("bba", x.word(2, 3, 0), 2 * 16 + 2 * 4 + 1);
    due("no second", x.word(2, 3, 1), -1);
    due("aaa", x.word(0, 3, 0), 21);
    due("bbb", x.word(0, 3, 7), 42);
    due("not so many", x.word(0, 3, 8), -1);
    due("bca", x.word(4, 3, 0), 2 * 16 + 3 * 4 + 1);
    due("cca", x.word(4, 3, 2), 3 * 16 + 3 * 4 + 1);
    due("the empty word", x.word(0, 0, 0), 0);
    due("none", x.word(1, 0, 0), -1);
    due("cccccccc", x.word(5, 8, x.words(5, 8) - 1), 65535);
    due("k", x.word(0, 3, -1) + x.word(0, 3, LOW) + x.word(0, 3, HIGH), -3);
    due("others", x.word(6, 1, 0) + x.word(-1, 1, 0) + x.word(0, 9, 0) + x.word(0, -1, 0), -4);
  }

  private static void prove() {
    says("promise 14");
    Prover x = of("(ab)*", "a(ba)*b+1");
    due("proved", x.prove(), 0);
    due("line 0", lineOf(x, 0), "0 1 1 1");
    due("line 1", lineOf(x, 1), "1 2 1 2");
    due("line 2", lineOf(x, 2), "0 12 1 1");
    due("lines", x.count(0), 3);
    x = of("a(a+b)*", "(a+b)*");
    due("member by a part", x.prove(), 0);
    due("line 0", lineOf(x, 0), "0 1 1 1");
    due("line 1", lineOf(x, 1), "1 1 0");
    x = of("a", "b");
    due("separated", x.prove(), 1);
    due("line 0", lineOf(x, 0), "0 1 1 1");
    due("line 1", lineOf(x, 1), "1 0 -1");
    x = of("a*(b+1)a", "(a+b)*");
    due("parts in their order", x.prove(), 0);
    due("line 0, by a: 0, 1, by b: 2", lineOf(x, 0), "0 1 1 0 1 2");
    due("a line with no parts", lineOf(x, 1), "1 1 1");
    x = of("0", "a");
    due("0 is in all", x.prove(), 0);
    due("a step without premises", lineOf(x, 0), "0 1 1");
    x = of("1", "a");
    due("the empty word", x.prove(), 1);
    due("it has no rule", lineOf(x, 0), "0 1 -1");
    givenUp();
  }

  private static void givenUp() {
    Prover x = of("(aaaaaaa)*", "(a+1)*+(aa)*+(aaa)*+(aaaaa)*");
    due("proved by 211 lines", x.prove(), 0);
    due("lines", x.count(0), 211);
    due("the longest word", x.count(4), 210);
    due("check", x.check(), -1);
    x = givenUpProver();
    due("given up", x.prove(), 2);
    due("300 lines", x.count(0), 300);
    due("no separating word", x.apart(0), -1);
    int turn = 0;
    while (turn < 300 && x.line(turn, 2) != -1) {
      turn++;
    }
    due("the line in turn has no premises", x.line(turn, 3), 0);
    due("none behind it has a rule", x.line(299, 2), -1);
    due("check", x.check(), turn);
    due("why", x.why(0), 1);
  }

  private static Prover givenUpProver() {
    // cycles of 11 letters on the left, of 2, 3, 5 on the right: 330 pairs
    return of("(a+1)*+(aaaaaaaaaaa)*", "(a+1)*+(aa)*+(aaa)*+(aaaaa)*");
  }

  private static void apart() {
    says("promise 15");
    Prover x = of("(a+b)*", "(a+b+1)(a+b+1)(ba)*");
    due("none yet", x.apart(0), -1);
    due("separated", x.prove(), 1);
    due("the word", apartOf(x), "3 aaa");
    due("behind it", x.apart(4), -1);
    due("wrong", x.apart(-1) + x.apart(LOW) + x.apart(HIGH), -3);
    x.cut();
    x.alter(0, 0, 7);
    x.same();
    x.between(0, 0);
    due("it stays", apartOf(x), "3 aaa");
    put(x, 0, "a+");
    due("it stays by a fault", apartOf(x), "3 aaa");
    put(x, 0, "(a+b)*");
    due("a new side", x.apart(0), -1);
    x.prove();
    x.make(1, 0, 0, 0);
    due("a made side", x.apart(0), -1);
    due("separated at once", x.prove(), 1);
    due("the empty word", apartOf(x), "0 ");
    due("the empty word", x.apart(1), -1);
    put(x, 0, "0");
    x.prove();
    due("proved", x.apart(0), -1);
  }

  private static void count() {
    says("promise 16");
    Prover x = of("(ab)*", "a(ba)*b+1");
    x.prove();
    tape(x, "abc");
    int[] want = {3, 0, 3, 3, 2, 1, 3};
    for (int i = 0; i < want.length; i++) {
      due("count " + i, x.count(i), want[i]);
    }
    due("others", x.count(7) + x.count(-1) + x.count(LOW) + x.count(HIGH), -4);
    x.alter(1, 2, 0);
    due("members", x.count(1), 1);
    due("steps", x.count(2), 2);
    due("premises of any rule", x.count(3), 3);
    x.alter(2, 10, 0);
    due("of none", x.count(5), 0);
    x.alter(0, 10, HIGH);
    due("of none", x.count(5), 1);
    x.alter(1, 10, LOW);
    due("of none", x.count(5), 2);
    x.cut();
    x.cut();
    due("premises", x.count(3), 1);
    due("the search's", x.count(4), 2);
    x.cut();
    due("the search's", x.count(4), 2);
    due("no lines", x.count(0) + x.count(1) + x.count(2) + x.count(3) + x.count(5), 0);
    put(x, 0, "a");
    due("without a search", x.count(4), 0);
    due("tape", x.count(6), 0);
  }

  private static void line() {
    says("promise 17");
    Prover x = of("a+bb", "b*");
    due("no lines", x.line(0, 0), -2);
    x.prove();
    due("line 0", lineOf(x, 0), "0 1 1 1 2");
    due("line 1", lineOf(x, 1), "1 0 -1");
    due("a line ahead of which it ended", lineOf(x, 2), "2 1 -1");
    due("no premise", x.line(0, 12) + x.line(1, 10) + x.line(0, HIGH), -6);
    due("no line", x.line(3, 0) + x.line(-1, 0) + x.line(HIGH, 10) + x.line(LOW, 0), -8);
    due("no what", x.line(0, 4) + x.line(0, 9) + x.line(0, -1) + x.line(0, LOW), -8);
  }

  private static void alter() {
    says("promise 18");
    Prover x = of("a+bb", "b*");
    due("no lines", x.alter(0, 0, 0), -2);
    x.prove();
    due("its term", x.alter(2, 0, HIGH), 2);
    due("its set", x.alter(2, 1, LOW), 1);
    due("its rule", x.alter(2, 2, 77), -1);
    due("its premise", x.alter(0, 11, -5), 2);
    due("line 2", lineOf(x, 2), HIGH + " " + LOW + " 77");
    due("line 0", lineOf(x, 0), "0 1 1 1 -5");
    due("what it was", x.alter(0, 11, 2), -5);
    due("not the number", x.alter(0, 3, 9), -2);
    due("no what", x.alter(0, 4, 9) + x.alter(0, 9, 9) + x.alter(0, -1, 9) + x.alter(0, LOW, 9), -8);
    due("no premise", x.alter(0, 12, 9) + x.alter(1, 10, 9) + x.alter(0, HIGH, 9), -6);
    due("no line", x.alter(3, 0, 9) + x.alter(-1, 0, 9) + x.alter(LOW, 10, 9), -6);
    due("nothing happened", lineOf(x, 0), "0 1 1 1 2");
  }

  private static void cut() {
    says("promise 19");
    Prover x = of("a+bb", "b*");
    due("none", x.cut(), -1);
    x.prove();
    due("2 left", x.cut(), 2);
    due("gone", x.line(2, 0), -2);
    due("its premise is no line", x.check(), 0);
    due("1 left", x.cut(), 1);
    due("0 left", x.cut(), 0);
    due("none", x.cut(), -1);
    due("check", x.check(), -2);
    due("a new search", x.prove(), 1);
    due("lines", x.count(0), 3);
  }

  private static void check() {
    says("promise 20");
    Prover x = of("(ab)*", "a(ba)*b+1");
    due("no lines", x.check(), -2);
    x.prove();
    due("accepted", x.check(), -1);
    x.alter(2, 2, 7);
    due("line 2", x.check(), 2);
    x.alter(1, 0, 2);
    due("line 1 ahead of it", x.check(), 0);
    x.alter(1, 0, 1);
    x.alter(2, 2, 1);
    due("accepted again", x.check(), -1);
    x.alter(2, 1, 4);
    due("a smaller set", x.check(), 2);
    x.alter(2, 1, 12);
    x.alter(2, 10, 0);
    due("another premise", x.check(), 2);
    Prover y = of("(a+b)*", "a(a+b)*");
    y.prove();
    due("a search that ended", y.check(), 0);
    due("reason", y.why(0), 1);
  }

  private static void why() {
    says("promise 21");
    Prover x = of("(ab)*", "a(ba)*b+1");
    due("no lines", x.why(0) + x.why(1) + x.why(2), 0);
    due("no what", x.why(3) + x.why(-1) + x.why(LOW), -3);
    x.prove();
    due("accepted", x.why(0) + x.why(1) + x.why(2), 0);
    due("no what", x.why(3) + x.why(-1) + x.why(HIGH), -3);
    whyIs(x, 0, 0, 2, 1, -1, -1);
    whyIs(x, 0, 0, -1, 1, -1, -1);
    whyIs(x, 0, 1, 16, 1, -1, -1);
    whyIs(x, 0, 1, 17, 1, -1, -1);
    whyIs(x, 0, 1, LOW, 1, -1, -1);
    whyIs(x, 0, 1, -1, 1, -1, -1);
    whyIs(x, 1, 1, 16, 5, 1, 1);
    whyIs(x, 2, 2, -1, 1, -1, -1);
    whyIs(x, 2, 2, 2, 1, -1, -1);
    whyIs(x, 2, 2, 0, 2, -1, -1);
    whyIs(x, 0, 1, 2, 3, -1, -1);
    whyIs(x, 2, 1, 0, 3, -1, -1);
    whyIs(x, 1, 1, 0, 5, 2, 0);
    whyIs(x, 1, 10, 3, 4, -1, 0);
    whyIs(x, 1, 10, -1, 4, -1, 0);
    whyIs(x, 0, 10, 2, 5, 1, 1);
    x.alter(2, 2, 0);
    x.alter(0, 0, 5);
    due("the first bad line's", x.why(0), 1);
    whySix();
  }

  /** After one alteration; it is taken back then. */
  private static void whyIs(Prover x, int line, int what, int v, int reason, int letter, int part) {
    int was = x.alter(line, what, v);
    String call = "why of " + line + ", " + what + " is " + v;
    due(call, x.why(0) + " " + x.why(1) + " " + x.why(2), reason + " " + letter + " " + part);
    x.alter(line, what, was);
    due("taken back", x.check(), -1);
  }

  private static void whySix() {
    Prover x = of("ab", "ab+c");
    x.prove();
    due("accepted", x.check(), -1);
    // left: ab b 1; right: ab+c b 1
    x.alter(0, 0, 1);
    x.alter(0, 1, 2);
    x.alter(0, 2, 0);
    due("a proof of something else", x.check(), 0);
    due("reason 6", x.why(0) + " " + x.why(1) + " " + x.why(2), "6 -1 -1");
    x.alter(1, 2, 5);
    due("behind all others", x.check(), 1);
    due("reason 1", x.why(0), 1);
    Prover y = of("0", "a");
    y.prove();
    y.alter(0, 1, 0);
    due("a set of nothing", y.check(), -1);
    y.alter(0, 1, 3);
    due("a set of two", y.check(), 0);
    due("a set of two", y.why(0), 6);
    y.alter(0, 1, 7);
    due("no such set", y.why(0), 1);
  }

  private static void same() {
    says("promise 22");
    Prover x = of("(ab)*", "a(ba)*b+1");
    x.prove();
    x.cut();
    due("same", x.same(), 1);
    due("nothing stays", x.count(0), 2);
    put(x, 0, "(ab)*ab");
    due("in, not the other way", x.same(), 0);
    x.swap();
    due("not in", x.same(), 0);
    due("nothing stays", x.count(0), 0);
    due("no word", x.apart(0), -1);
    due("none of the search", x.count(4), 0);
    due("both 0", new Prover().same(), 1);
    Prover y = givenUpProver();
    due("given up", y.same(), 2);
    y.swap();
    due("given up", y.same(), 2);
    y = of("(aaaaaaaaaaa)*", "(a+1)*+(aa)*+(aaa)*+(aaaaa)*");
    due("given up, the other separated", y.same(), 0);
    y.swap();
    due("separated, the other given up", y.same(), 0);
  }

  private static void between() {
    says("promise 23");
    Prover x = of("(ab)*", "(ab)*ab");
    x.keep(0, 0);
    x.keep(1, 1);
    x.prove();
    int lines = x.count(0);
    due("separated", x.between(0, 1), 1);
    due("proved", x.between(1, 0), 0);
    due("the same", x.between(1, 1), 0);
    due("0", x.between(3, 1), 0);
    due("no slots", x.between(4, 0) + x.between(-1, 0) + x.between(0, 4) + x.between(0, LOW), -4);
    due("nothing stays", x.count(0), lines);
    due("nothing stays", apartOf(x), "0 ");
    due("the sides stay", spelt(x, 0) + " " + spelt(x, 1), "(ab)* (ab)*ab");
    Prover y = givenUpProver();
    y.keep(0, 2);
    y.keep(1, 3);
    due("given up", y.between(2, 3), 2);
  }

  private static void image() {
    says("promise 24");
    Prover x = of("(ab)*", "a(ba)*b+1");
    x.prove();
    due("image", x.image(0), true);
    x.cut();
    due("image", x.image(1), true);
    due("no such", x.image(2) || x.image(-1) || x.image(LOW), false);
    x.again(0);
    due("image 0", x.count(0), 3);
    x.again(1);
    due("image 1", x.count(0), 2);
    x.image(0);
    x.prove();
    x.again(0);
    due("an image made anew", x.count(0), 2);
  }

  private static void againWithoutImages() {
    Prover x = new Prover();
    due("a new object has no image 0", x.again(0), false);
    due("a new object has no image 1", x.again(1), false);
    tape(x, "ab");
    x.image(0);
    tape(x, "c");
    due("image 0 makes no image 1", x.again(1), false);
    due("nothing happened", x.count(6), 3);
    due("image 0", x.again(0), true);
    due("as it was", x.count(6), 2);
    due("image 0, again used, makes no image 1", x.again(1), false);
    Prover y = new Prover();
    y.image(1);
    due("image 1 makes no image 0", y.again(0), false);
    due("image 1", y.again(1), true);
    Prover z = new Prover();
    due("no image 2", z.image(2) || z.image(-1), false);
    due("it made none", z.again(0) || z.again(1), false);
    Prover w = new Prover();
    w.image(0);
    put(w, 0, "a*");
    put(w, 1, "b");
    w.keep(0, 3);
    w.prove();
    due("an image of a new object", w.again(0), true);
    due("both sides 0", spelt(w, 0) + spelt(w, 1) + w.shape(0, 0) + w.shape(1, 0), "0011");
    due("no lines", w.check(), -2);
    due("slots 0", w.make(0, 0, 3, 0), 1);
    due("slots 0", spelt(w, 0), "0");
  }

  private static void again() {
    says("promise 25");
    againWithoutImages();
    Prover x = of("(a+b)*", "(a+b+1)(a+b+1)(ba)*");
    due("none", x.again(0) || x.again(1) || x.again(2) || x.again(-1), false);
    x.keep(1, 2);
    put(x, 1, "a*a*");
    tape(x, ")");
    x.side(0);
    x.prove();
    x.alter(0, 11, 42);
    tape(x, "ab");
    x.image(1);
    tape(x, "c");
    x.has(0);
    put(x, 0, "a+");
    due("another fault", x.fault(), 2);
    x.swap();
    x.prove();
    x.keep(0, 2);
    due("again", x.again(1), true);
    due("tape", x.count(6), 2);
    due("fault", x.fault(), 0);
    due("left", spelt(x, 0), "(a+b)*");
    due("right", spelt(x, 1), "a*a*");
    due("terms", termSpelt(x, 1, 1), "a*");
    due("line 0", lineOf(x, 0), "0 1 1 0 42");
    due("apart", apartOf(x), "1 b");
    due("longest", x.count(4), 1);
    due("the tape's bytes", x.has(0), true);
    due("slot", x.make(0, 0, 2, 0), 4);
    due("slot", spelt(x, 0), "(a+b+1)(a+b+1)(ba)*");
    due("it can be used twice", x.again(1), true);
    due("line 0", lineOf(x, 0), "0 1 1 0 42");
    due("none", x.again(0), false);
  }
}
