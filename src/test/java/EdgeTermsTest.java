import java.util.function.Consumer;

/** The boundary cases of "What it is" and of Terms 1 and 2: EXPRESSIONS, SHAPES, PARTS, TERMS. */
public final class EdgeTermsTest extends Calls {
  public static void main(String[] args) {
    lastPromisedCall();
    laterCalls();
    letters();
    bytes();
    grammar();
    blanks();
    faultsPlace();
    endsPlace();
    shortTexts();
    wordsOfAtoms();
    wordsOfOthers();
    shapesOfSums();
    nothingLeftOfSums();
    shapesOfProducts();
    nothingLeftOfProducts();
    shapesOfStars();
    likeShapes();
    speltShapes();
    sidesAndSlots();
    partsOfAtoms();
    partsOfSums();
    partsOfProducts();
    partsOfStars();
    orderOfTerms();
    mostTerms();
    setsAsBits();
    fullTerms();
    end();
  }

  // ---- What it is

  private static void lastPromisedCall() {
    says("An object is used for at most 512 calls after it has been made");
    lastCallBehind("fault", x -> x.fault());
    lastCallBehind("write and has", x -> has(x, 0, "abc"));
    lastCallBehind("a full tape", x -> x.write(-1L));
    lastCallBehind("side", x -> put(x, 0, a(30)));
    lastCallBehind("side with a FAULT", x -> put(x, 0, "a+"));
    lastCallBehind("swap", x -> x.swap());
    lastCallBehind("side and swap", x -> {
      put(x, 0, "a*b");
      x.swap();
    });
    lastCallBehind("keep and make", x -> {
      x.make(0, 3, 0, 0);
      x.keep(0, 0);
      x.make(1, 1, 0, 1);
    });
    lastCallBehind("shape, term, like", x -> {
      x.shape(0, 10);
      x.term(0, 0, 10);
      x.like(0, 0);
    });
    lastCallBehind("words and word", x -> {
      x.words(5, 8);
      x.word(5, 8, 6560);
    });
    lastCallBehind("prove and cut", x -> {
      x.prove();
      x.cut();
    });
    lastCallBehind("check and why", x -> {
      x.alter(0, 10, HIGH);
      x.check();
      x.why(2);
    });
    lastCallBehind("same and between", x -> {
      x.same();
      x.between(0, 3);
    });
    lastCallBehind("image and again", x -> {
      x.image(1);
      x.again(1);
    });
    longProofsToTheLastCall();
    manyTextsToTheLastCall();
  }

  /** The 512th call answers as it would at once, whatever the calls ahead of it were. */
  private static void lastCallBehind(String name, Consumer<Prover> more) {
    Prover x = proved("(a+b)*", "a*b*");
    while (x.calls() < Prover.PROMISED - 24) {
      more.accept(x);
    }
    while (x.calls() < Prover.PROMISED - 12) {
      x.count(0);
    }
    x.has(0);
    put(x, 0, "(ab)*");
    put(x, 1, "a(ba)*b+1");
    due("prove behind " + name, x.prove(), 0);
    due("LINES behind " + name, x.count(0), 3);
    due("a SET behind " + name, x.line(2, 1), 12);
    due("image behind " + name, x.image(0), true);
    due("again behind " + name, x.again(0), true);
    due("calls so far", x.calls(), Prover.PROMISED - 1);
    due("the 512th call behind " + name, x.check(), -1);
  }

  /** SEARCHES of 300 LINES up to the last call. */
  private static void longProofsToTheLastCall() {
    Prover x = of("(" + a(23) + ")*", "(a+1)*+(" + a(13) + ")*");
    while (x.calls() < Prover.PROMISED - 2) {
      due("prove", x.prove(), 0);
    }
    due("LINES", x.count(0), 300);
    due("the 512th call", x.line(298, 0), 22);
  }

  /** New texts up to the last call, each read as if it were the first. */
  private static void manyTextsToTheLastCall() {
    Prover x = new Prover();
    for (int i = 0; x.calls() <= Prover.PROMISED - 3; i++) {
      String one = "abc".substring(i % 3, i % 3 + 1) + "abc".charAt(i / 3 % 3);
      String other = "abc".substring(i / 9 % 3, i / 9 % 3 + 1);
      String text = (i / 81 % 2 == 0 ? "(" + one + "+" + other : "(" + other + "+" + one) + ")*"
          + "abc".charAt(i / 27 % 3);
      Oracle.Shape want = Oracle.read(text);
      due("TERMS of " + text, put(x, i % 2, text), Oracle.termsOf(want).size());
      due("bytes of " + text, x.shape(i % 2, 2), want.told().length());
    }
  }

  private static void laterCalls() {
    says("what later calls answer is free (but none throws)");
    InclusionProver x = new InclusionProver();
    int[] odd = {0, 1, 2, 3, 10, 11, -1, -2, 31, 32, 300, LOW, HIGH};
    for (int i = 0; i < 3000; i++) {
      int a = odd[i % 13];
      int b = odd[i / 13 % 13];
      x.write(i % 3 == 0 ? -1L : word("a*(b+c)*", i % 5));
      x.side(a);
      x.keep(a, b);
      x.make(a, b, a, b);
      x.prove();
      x.alter(a, b, odd[i % 7]);
      x.check();
      x.why(a);
      x.line(a, b);
      x.image(a);
      x.again(b);
      x.cut();
      x.term(a, b, a);
      x.words(a, b);
      x.word(a, b, a);
    }
    due("none threw", true, true);
  }

  // ---- Terms 1: EXPRESSIONS

  private static void letters() {
    says("LETTERS are a, b, c");
    for (int b = 1; b < 256; b++) {
      boolean atom = "01abc".indexOf(b) >= 0;
      boolean begins = b == '(' || b == ' ';
      due("byte " + b + " alone", faultAt("" + (char) b), atom ? -1 : begins ? 1 : 0);
      due("a + byte " + b, faultAt("a+" + (char) b), atom ? -1 : begins ? 3 : 2);
    }
    due("a, b, c", shapeOf("a+b+c"), "a+b+c");
    due("LETTERS of it", of("abc", "0").shape(0, 3), 3);
  }

  private static void bytes() {
    says("An EXPRESSION is a text of at most 30 bytes");
    due("30 letters", faultAt(a(30)), -1);
    due("31 letters", faultAt(a(31)), 30);
    due("30 bytes, blanks counted", faultAt(a(28) + "  "), -1);
    due("31 bytes, blanks counted", faultAt(a(28) + "   "), 30);
    due("31 bytes, blanks ahead", faultAt(" ".repeat(30) + "a"), 30);
    due("30 bytes, blanks ahead", faultAt(" ".repeat(29) + "a"), -1);
    due("30 bytes, a star the last", faultAt(a(29) + "*"), -1);
    due("31 bytes, a star the last", faultAt(a(30) + "*"), 30);
    due("29 bytes in brackets", faultAt("(".repeat(14) + "a" + ")".repeat(14)), -1);
    due("30 bytes in brackets", faultAt("(".repeat(14) + "ab" + ")".repeat(14)), -1);
    due("31 bytes in brackets", faultAt("(".repeat(15) + "a" + ")".repeat(15)), 30);
    due("30 stars and a letter", faultAt("a" + "*".repeat(30)), 30);
    due("29 stars and a letter", faultAt("a" + "*".repeat(29)), -1);
  }

  private static void grammar() {
    says("SUM: PRODUCT {'+' PRODUCT}; PRODUCT: FACTOR {FACTOR}; FACTOR: ATOM {'*'}; ATOM: ..");
    for (int b = 1; b < 256; b++) {
      boolean goesOn = "01abc* ".indexOf(b) >= 0;
      boolean begins = b == '(' || b == '+';
      due("a, byte " + b, faultAt("a" + (char) b), goesOn ? -1 : begins ? 2 : 1);
      due("(a, byte " + b, faultAt("(a" + (char) b), b == ')' ? -1 : goesOn || begins ? 3 : 2);
    }
    due("one PRODUCT", shapeOf("a"), "a");
    due("a SUM without its first PRODUCT", faultAt("+a"), 0);
    due("a SUM without its last PRODUCT", faultAt("a+"), 2);
    due("a SUM without one between", faultAt("a++a"), 2);
    due("a star on none", faultAt("*"), 0);
    due("a star on a SUM's sign", faultAt("a+*"), 2);
    due("a star on a bracket", faultAt("(*)"), 1);
    due("stars on stars", shapeOf("a***b"), "a*b");
    due("brackets with nothing", faultAt("()"), 1);
    due("brackets that are not closed", faultAt("(a"), 2);
    due("brackets that are not opened", faultAt("a)"), 1);
    due("a bracket too many", faultAt("((a)))"), 5);
    due("brackets with blanks alone", faultAt("(  )"), 3);
    due("a SUM in brackets that ends in a sign", faultAt("(a+)"), 3);
    due("a SUM in brackets", shapeOf("(a+b)(0+c)"), "(a+b)c");
  }

  private static void blanks() {
    says("blanks (32) between");
    due("ahead, between, behind", shapeOf(" ( a + b ) * c * "), "(a+b)*c*");
    due("several", shapeOf("   a   b   "), "ab");
    due("ahead of a star", shapeOf("ab *"), "ab*");
    due("between stars", shapeOf("a * *"), "a*");
    for (int b : new int[] {9, 10, 13, 31, 33, 95, 127, 160, 255}) {
      due("byte " + b + " is no blank", faultAt("a" + (char) b + "b"), 1);
      due("byte " + b + " is no blank ahead", faultAt((char) b + "a"), 0);
    }
  }

  private static void faultsPlace() {
    says("Its FAULT: the first byte with which no EXPRESSION goes on (its place");
    due("the first byte", faultAt(")a"), 0);
    due("the last byte", faultAt("ab)"), 2);
    due("the first of two", faultAt("a)b)"), 1);
    due("the first of two kinds", faultAt("ab++c)"), 3);
    due("a byte ahead of the end's", faultAt("(a+d"), 3);
    due("blanks ahead of it are none", faultAt("a   )"), 4);
    due("its place with blanks", faultAt("  +a"), 2);
    due("the 30th byte", faultAt(a(29) + ")"), 29);
    due("the 29th byte of 30", faultAt(a(28) + ")a"), 28);
  }

  private static void endsPlace() {
    says("the end's: how many bytes there are)");
    due("no bytes", faultAt(""), 0);
    due("a blank", faultAt(" "), 1);
    due("30 blanks", faultAt(" ".repeat(30)), 30);
    due("behind a sign", faultAt("a+"), 2);
    due("behind a sign and blanks", faultAt("a+  "), 4);
    due("an open bracket", faultAt("("), 1);
    due("an open bracket, filled", faultAt("(a*"), 3);
    due("29 bytes", faultAt("(" + a(28)), 29);
    due("30 bytes", faultAt("(" + a(29)), 30);
    due("30 brackets", faultAt("(".repeat(30)), 30);
  }

  /** Every text of up to five signs, FAULT and SHAPE, against the oracle. */
  private static void shortTexts() {
    says("EXPRESSIONS, FAULTS and SHAPES of all short texts");
    String signs = "01a+*() ";
    Prover x = new Prover();
    for (int size = 0; size <= 5; size++) {
      int all = 1 << 3 * size;
      for (int i = 0; i < all; i++) {
        StringBuilder text = new StringBuilder();
        for (int j = 0; j < size; j++) {
          text.append(signs.charAt(i >> 3 * j & 7));
        }
        x = x.calls() > Prover.PROMISED - 40 ? new Prover() : x;
        shortText(x, text.toString());
      }
    }
  }

  private static void shortText(Prover x, String text) {
    int want = Oracle.faultOf(text);
    int n = put(x, 1, text);
    due("fault of '" + text + "'", x.fault(), want);
    if (want == -1) {
      Oracle.Shape shape = Oracle.read(text);
      due("TERMS of '" + text + "'", n, Oracle.termsOf(shape).size());
      due("SHAPE of '" + text + "'", spelt(x, 1), shape.told());
    } else {
      due("side of '" + text + "'", n, -1);
    }
  }

  private static String wordsOf(String text) {
    Prover x = of(text, "0");
    StringBuilder out = new StringBuilder();
    for (int n = 0; n <= 4; n++) {
      out.append(n == 0 ? "" : " ").append(x.words(0, n));
    }
    return out.toString();
  }

  private static void wordsOfAtoms() {
    says("0 has no words, 1 the empty word alone, a LETTER that one");
    due("0", wordsOf("0"), "0 0 0 0 0");
    due("1", wordsOf("1"), "1 0 0 0 0");
    due("b", wordsOf("b"), "0 1 0 0 0");
    due("b's word", of("b", "0").word(0, 1, 0), 2);
    due("of a, no word", has(of("a", "0"), 0, "b"), false);
    due("of a, that one", has(of("a", "0"), 0, "a"), true);
  }

  private static void wordsOfOthers() {
    says("a SUM has those of each, a PRODUCT one of each behind one another, a star any number (none, too)");
    due("a SUM", wordsOf("a+bc+1"), "1 1 1 0 0");
    due("a SUM, the same word twice", wordsOf("a(b+1)+a"), "0 1 1 0 0");
    due("a PRODUCT", wordsOf("(a+b)(1+c)"), "0 2 2 0 0");
    due("a PRODUCT with 0", wordsOf("(a+b)0"), "0 0 0 0 0");
    due("a star", wordsOf("(a+b)*"), "1 2 4 8 16");
    due("a star, none, two, four", wordsOf("(ab)*"), "1 0 1 0 1");
    due("a star of 0: none alone", wordsOf("0*"), "1 0 0 0 0");
    due("a star of 1: none alone", wordsOf("1*"), "1 0 0 0 0");
    due("a star of 30 letters' like", has(of("a*", "0"), 0, a(30)), true);
  }

  // ---- Terms 1: SHAPES

  private static void shapesOfSums() {
    says("SHAPES: of a SUM: those of its PRODUCTS in their order, .. 0 left out, each but once (the first time)");
    due("in their order", shapeOf("c+b+a"), "c+b+a");
    due("one that is a SUM itself", shapeOf("a+(b+c)"), "a+b+c");
    due("SUMS in SUMS", shapeOf("((a+b)+(c+1))"), "a+b+c+1");
    due("a SUM by leaving out", shapeOf("a+1(b+c)1"), "a+b+c");
    due("a SUM in a PRODUCT stays", shapeOf("a+b(b+c)"), "a+b(b+c)");
    due("a SUM under a star stays", shapeOf("a+(b+a)*"), "a+(b+a)*");
    due("0 ahead", shapeOf("0+a+b"), "a+b");
    due("0 between", shapeOf("a+0+b"), "a+b");
    due("0 behind", shapeOf("a+b+0"), "a+b");
    due("0 by a PRODUCT", shapeOf("a+b0+c"), "a+c");
    due("1 stays", shapeOf("1+a+1"), "1+a");
    due("the first time", shapeOf("a+b+a"), "a+b");
    due("the first time, in another SUM", shapeOf("(a+b)+(b+c)+(c+a)"), "a+b+c");
    due("by the SHAPE", shapeOf("ab+a1b+(a)(b)+a"), "ab+a");
    due("not by the words", shapeOf("a*+a*a*+(a+1)*"), "a*+a*a*+(a+1)*");
    due("not by another order", shapeOf("(a+b)c+(b+a)c"), "(a+b)c+(b+a)c");
  }

  private static void nothingLeftOfSums() {
    says("if none is left it is 0, if one, that one");
    due("none", shapeOf("0+0"), "0");
    due("none, deeper", shapeOf("0+(0+0a)+b0"), "0");
    due("one, a letter", shapeOf("0+a"), "a");
    due("one, by each but once", shapeOf("a+a+a"), "a");
    due("one, a PRODUCT: its FACTORS go on", shapeOf("(ab+0)c"), "abc");
    due("one, a star: of a star that star", shapeOf("(0+a*)*"), "a*");
    due("one, 1: left out of a PRODUCT", shapeOf("(1+0)a"), "a");
    due("two are no one", shapeOf("(1+a)b"), "(1+a)b");
  }

  private static void shapesOfProducts() {
    says("Of a PRODUCT: likewise of its FACTORS, in place of one that is a PRODUCT those of that, 1 left out, "
        + "but 0, if any is 0");
    due("in their order", shapeOf("cba"), "cba");
    due("in place of a PRODUCT its FACTORS", shapeOf("a(bc)a"), "abca");
    due("PRODUCTS in PRODUCTS", shapeOf("((ab)(c(ab)))"), "abcab");
    due("each as often as it comes", shapeOf("aabaa"), "aabaa");
    due("stars as often as they come", shapeOf("a*a*a*"), "a*a*a*");
    due("1 ahead", shapeOf("1ab"), "ab");
    due("1 between", shapeOf("a1b"), "ab");
    due("1 behind", shapeOf("ab1"), "ab");
    due("1 by a star", shapeOf("a0*b1*"), "ab");
    due("0 ahead", shapeOf("0ab"), "0");
    due("0 between", shapeOf("a0b"), "0");
    due("0 behind", shapeOf("ab0"), "0");
    due("0 by a SUM", shapeOf("a(0+0)"), "0");
    due("0 deeper", shapeOf("a(b(c(0)))"), "0");
    due("0 and 1", shapeOf("10"), "0");
    due("0 in a SUM of more is none", shapeOf("a(0+b)"), "ab");
  }

  private static void nothingLeftOfProducts() {
    says("(none left: 1); if one, that one");
    due("none", shapeOf("11"), "1");
    due("none, deeper", shapeOf("1(1(11)*)"), "1");
    due("one, a letter", shapeOf("1a1"), "a");
    due("one, a SUM: its parts go on", shapeOf("1(a+b)+c"), "a+b+c");
    due("one, a star: of a star that star", shapeOf("(1a*1)*"), "a*");
  }

  private static void shapesOfStars() {
    says("Of a star: of 0, 1 it is 1, of a star that star");
    due("of 0", shapeOf("0*"), "1");
    due("of 1", shapeOf("1*"), "1");
    due("of what comes to 0", shapeOf("(a0+0)*"), "1");
    due("of what comes to 1", shapeOf("(1+1*)*"), "1");
    due("of a star", shapeOf("(a*)*"), "a*");
    due("of a star, many times", shapeOf("((ab)**)**"), "(ab)*");
    due("of a SUM with 1", shapeOf("(1+a)*"), "(1+a)*");
    due("of a SUM of stars", shapeOf("(a*+b*)*"), "(a*+b*)*");
    due("of a PRODUCT of stars", shapeOf("(a*b*)*"), "(a*b*)*");
    due("of a SUM of one star", shapeOf("(a*+a*)*"), "a*");
  }

  private static boolean isLike(String one, String other) {
    return of(one, other).like(0, 0) == 0;
  }

  private static void likeShapes() {
    says("LIKE are two SHAPES that are told alike so");
    due("the same text", isLike("ab*+c", "ab*+c"), true);
    due("another text", isLike("(a)((b)*)+0+c", " a 1 b ** + c+c"), true);
    due("0", isLike("0", "a0"), true);
    due("1", isLike("1", "0*"), true);
    due("another order", isLike("a+b", "b+a"), false);
    due("the same words, another SHAPE", isLike("aa*", "a*a"), false);
    due("the same words, 1 more", isLike("a*", "a*+1"), false);
    due("a SUM and its part", isLike("a+b", "a"), false);
    due("one that begins alike", isLike("ab", "abc"), false);
    due("one that ends alike", isLike("bc", "abc"), false);
    due("a PRODUCT and a SUM", isLike("ab", "a+b"), false);
  }

  private static void speltShapes() {
    says("SPELT a SHAPE is: its parts with + between, in brackets, if it is in a PRODUCT or under a star; "
        + "a PRODUCT's one behind the other, in brackets under a star");
    due("a SUM alone", shapeOf("(a+b)"), "a+b");
    due("a SUM in a PRODUCT, ahead", shapeOf("(a+b)c"), "(a+b)c");
    due("a SUM in a PRODUCT, behind", shapeOf("c(a+b)"), "c(a+b)");
    due("a SUM under a star", shapeOf("(a+b)*"), "(a+b)*");
    due("a SUM under a star in a PRODUCT", shapeOf("(a+b)*c"), "(a+b)*c");
    due("a PRODUCT alone", shapeOf("((ab))"), "ab");
    due("a PRODUCT in a SUM", shapeOf("(ab)+c"), "ab+c");
    due("a PRODUCT under a star", shapeOf("(ab)*"), "(ab)*");
    due("a PRODUCT under a star in a SUM", shapeOf("(ab)*+c"), "(ab)*+c");
    due("a LETTER under a star", shapeOf("(a)*"), "a*");
    due("a star in a PRODUCT", shapeOf("(a*)(b*)"), "a*b*");
    due("a star in a SUM under a star", shapeOf("((a*)+(b))*"), "(a*+b)*");
    due("0", shapeOf("(0)"), "0");
    due("1 in a SUM", shapeOf("(a+(1))b"), "(a+1)b");
    due("30 bytes", shapeOf("((a+b)(b+c)*+(ca)*)*(a*b+1)ccc"), "((a+b)(b+c)*+(ca)*)*(a*b+1)ccc");
  }

  private static void sidesAndSlots() {
    says("There are two SIDES, 0 LEFT, 1 RIGHT (at first each 0), and SLOTS 0 .. 3");
    Prover x = new Prover();
    due("LEFT at first", spelt(x, 0), "0");
    due("RIGHT at first", spelt(x, 1), "0");
    all("no SIDE", -1, x.shape(-1, 0), x.shape(2, 0), x.shape(LOW, 0), x.shape(HIGH, 0));
    put(x, 0, "a");
    put(x, 1, "bb");
    due("0 is LEFT, 1 is RIGHT", x.words(0, 1) + " " + x.words(1, 2), "1 1");
    none("no SLOT", x.keep(0, -1), x.keep(0, 4), x.keep(0, LOW), x.keep(0, HIGH));
    String[] kept = {"a", "ab", "abc", "abca"};
    for (int slot = 0; slot < 4; slot++) {
      put(x, 0, kept[slot]);
      due("SLOT " + slot, x.keep(0, slot), true);
    }
    for (int slot = 0; slot < 4; slot++) {
      x.make(1, 0, slot, 0);
      due("SLOT " + slot + " is its own", spelt(x, 1), kept[slot]);
    }
  }

  // ---- Terms 2

  /** The SETS of a TERM's PARTS by a, b, c. */
  private static String partsOf(String text, int term) {
    Prover x = of(text, "0");
    return x.term(0, term, 2) + " " + x.term(0, term, 3) + " " + x.term(0, term, 4);
  }

  private static void partsOfAtoms() {
    says("PARTS of a SHAPE by a LETTER x: of 0, 1: none; of a LETTER: 1, if it is x");
    due("of 0", partsOf("0", 0), "0 0 0");
    due("of 1", partsOf("1", 0), "0 0 0");
    due("of a", partsOf("a", 0), "2 0 0");
    due("of b", partsOf("b", 0), "0 2 0");
    due("of c", partsOf("c", 0), "0 0 2");
    due("it is 1", terms("b"), "b 1");
    due("of that none", partsOf("b", 1), "0 0 0");
  }

  private static void partsOfSums() {
    says("each but once .. of a SUM: those of its first, then its second one, ..");
    due("in order", terms("ac+ab+aa"), "ac+ab+aa c b a 1");
    due("in the other order", terms("aa+ab+ac"), "aa+ab+ac a b c 1");
    due("each but once", terms("aa*+a*"), "aa*+a* a*");
    due("each but once, as bits", partsOf("aa*+a*", 0), "2 0 0");
    due("each but once, as PREMISES", lineOf(proved("aa*+a*", "(a+1)*"), 0), "0 1 1 1");
    due("1 has none", partsOf("1+ab+ac+b", 0), "6 8 0");
    due("order of PREMISES", lineOf(proved("b+ac+ab+a", "b"), 0), "0 1 1 1 2 3 3");
  }

  private static void partsOfProducts() {
    says("of a PRODUCT: those of its first FACTOR, each with the others behind it (as a SHAPE of a PRODUCT), "
        + "then, if that one has the empty word, those of the others (as a PRODUCT of their own)");
    due("1 with the others: the others", terms("ab"), "ab b 1");
    due("1 with one other that is a SUM: that SUM", terms("a(b+c)"), "a(b+c) b+c 1");
    due("a PRODUCT with the others: one PRODUCT", terms("(abc+b)a"), "(abc+b)a bca a ca 1");
    due("a SUM with the others", terms("(a(b+c)+b)a"), "(a(b+c)+b)a (b+c)a a 1");
    due("the first has no empty word", partsOf("(a+b)ab", 0), "2 2 0");
    due("the first has the empty word", partsOf("(1+b)ab", 0), "2 4 0");
    due("its own ahead of the others'", terms("(1+a)ab"), "(1+a)ab ab b 1");
    due("its own and the others'", partsOf("(1+a)ab", 0), "6 0 0");
    due("the others' others", partsOf("(1+a)(1+b)c", 0), "2 4 8");
    due("the second has none: the third is out", partsOf("(1+a)bc", 0), "2 4 0");
    due("the others, one alone", terms("a*(b+c)"), "a*(b+c) 1");
    due("each but once", partsOf("a*a*", 0), "3 0 0");
    due("each but once, as PREMISES", lineOf(proved("(1+a)(1+a)(1+a)", "(a+1)*"), 0), "0 1 1 1 2 3");
    due("its own again, as PREMISES", lineOf(proved("(1+a)a*+a*", "(a+1)*"), 0), "0 1 1 1");
    due("each but once, one that is the others'", terms("(1+a)a*"), "(1+a)a* a*");
  }

  private static void partsOfStars() {
    says("of a star: those of what is under it, each with that star behind it");
    due("1 with the star: the star", terms("a*"), "a*");
    due("of a PRODUCT", terms("(ab)*"), "(ab)* b(ab)*");
    due("of a SUM under it", terms("(ab+c)*"), "(ab+c)* b(ab+c)*");
    due("a SUM with the star", terms("(a(b+c))*"), "(a(b+c))* (b+c)(a(b+c))*");
    due("stars in one another", terms("(a*b)*"), "(a*b)* a*b(a*b)*");
    due("none by another LETTER", partsOf("(ab)*", 0), "2 0 0");
  }

  private static void orderOfTerms() {
    says("TERMS: from its own SHAPE, number 0, on: of each, in order, for a, b, c, the PARTS that are none yet");
    due("0", terms("0"), "0");
    due("1", terms("1"), "1");
    due("a, then b, then c", terms("cba+bcc+acb"), "cba+bcc+acb cb cc ba b c a 1");
    due("of TERM 1 ahead of TERM 2", terms("a(cb)+bca"), "a(cb)+bca".replace("(cb)", "cb") + " cb ca b a 1");
    due("its own SHAPE again is TERM 0", terms("a*+b(a*+b)"), "a*+b(a*+b) a* a*+b 1");
    due("TERM 0 by its PARTS", partsOf("(a+b)*", 0), "1 1 0");
  }

  private static void mostTerms() {
    says("(some 31 at most)");
    Prover x = new Prover();
    due("30 letters: 31", put(x, 0, "abcabcabcabcabcabcabcabcabcabc"), 31);
    due("the last one is 1", termSpelt(x, 0, 30), "1");
    due("it is FULL", x.term(0, 30, 0), 1);
    due("the one ahead is FULL not", x.term(0, 29, 0), 0);
    all("no 32nd", -1, x.term(0, 31, 0), x.term(0, 32, 0), x.term(0, 31, 2), x.term(0, 31, 10));
    due("29 letters: 30", put(x, 0, a(29)), 30);
    due("in brackets", put(x, 0, "((a+b)(b+c)*+(ca)*)*(a*b+1)ccc"), 9);
    due("15 letters in a SUM: 2", put(x, 1, "a+b+c+a+b+c+a+b+c+a+b+c+a+b+c"), 2);
    due("15 stars", put(x, 1, "a*b*a*b*a*b*a*b*a*b*a*b*a*b*c*"), 15);
    due("8 stars in one another", put(x, 1, "(((((((a*b)*b)*b)*b)*b)*b)*b)*"), 8);
  }

  private static void setsAsBits() {
    says("A SET of TERMS is told as bits; PARTS of a SET: those of each, together");
    Prover x = of("abcabcabcabcabcabcabcabcabcabc", "a*a*a*a*a*a*a*a*a*a*a*a*a*a*a*");
    due("bit 1", x.term(0, 0, 2), 2);
    due("bit 30", x.term(0, 29, 4), 1 << 30);
    due("bit 29", x.term(0, 28, 3), 1 << 29);
    due("15 bits", x.term(1, 0, 2), (1 << 15) - 1);
    due("the last one's bit", x.term(1, 14, 2), 1 << 14);
    due("no bit", x.term(1, 0, 3), 0);
    due("PARTS of two, together", linesOf(proved("aa(b+c)", "aab+aac")),
        "0 1 1 1, 1 6 1 2, 2 24 1 3 3, 3 32 0");
  }

  private static void fullTerms() {
    says("FULL is a TERM or SHAPE that has the empty word");
    String[] full = {"1", "a*", "0*", "a+1", "a*b*", "(a+1)(b*+c)", "a+b*", "(ab)*+c"};
    for (String text : full) {
      Prover x = of(text, "0");
      due(text + " is FULL", x.shape(0, 1) + " " + x.term(0, 0, 0), "1 1");
    }
    String[] others = {"0", "a", "a*b", "ba*", "a+b", "0a*", "a*ba*", "(a+1)(b+c)"};
    for (String text : others) {
      Prover x = of(text, "0");
      due(text + " is not FULL", x.shape(0, 1) + " " + x.term(0, 0, 0), "0 0");
    }
    Prover x = of("ab*", "0");
    due("a TERM is FULL, its SIDE is not", x.shape(0, 1) + " " + x.term(0, 1, 0), "0 1");
  }
}
