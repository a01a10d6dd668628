import java.util.function.Consumer;

/** The boundary cases of promises 1 to 13: a new object, the tape, SIDES, SLOTS, what there is. */
public final class EdgeCallsTest extends Rooms {
  /** Numbers that are no SIDE, and far ones that a wrap-around could make one. */
  private static final int[] NO_SIDES = {-1, 2, 3, -2, 256, 1 << 16, LOW, LOW + 1, HIGH};
  private static final int[] NO_SLOTS = {-1, 4, 5, -4, 256, LOW, LOW + 2, HIGH};

  public static void main(String[] args) {
    newObject();
    writeUpToZero();
    writeHighestFirst();
    writeUpToSixty();
    writeTooMany();
    sideTellsTerms();
    sideEmptiesTheTape();
    sideWithFault();
    sideOfMoreBytes();
    sideNoSuch();
    faultOfTheLatest();
    faultNone();
    swapChanges();
    swapLeavesTheRest();
    keepTakes();
    keepNoSuch();
    makeOfSlots();
    makeLooksNotAtOther();
    makeNoSuch();
    makeBytes();
    makeLeavesTheRest();
    shapeNumbers();
    shapeOfNothing();
    shapeFinite();
    shapeStars();
    shapeBytes();
    shapeOthers();
    termNumbers();
    termNoSuch();
    likeTerms();
    likeNone();
    hasWord();
    hasEmptiesTheTape();
    hasNoSuch();
    wordsOfLengths();
    wordsOthers();
    wordNumbers();
    wordNotSoMany();
    wordOthers();
    end();
  }

  // ---- promise 1

  private static void newObject() {
    says("1: Both SIDES 0, no LINES, all SLOTS 0; no images");
    Prover x = new Prover();
    for (int side = 0; side < 2; side++) {
      due("a SIDE", spelt(x, side), "0");
      due("its TERMS", x.shape(side, 0) + " " + termSpelt(x, side, 0), "1 0");
      due("no words", x.shape(side, 5), 1);
    }
    for (int what = 0; what < 7; what++) {
      due("count(" + what + ")", x.count(what), 0);
    }
    due("check", x.check(), -2);
    due("why", whyOf(x), "0 0 0");
    due("line", x.line(0, 0), -2);
    due("alter", x.alter(0, 0, 0), -2);
    due("cut", x.cut(), -1);
    due("apart", x.apart(0), -1);
    due("fault", x.fault(), -1);
    due("no images", x.again(0) + " " + x.again(1), "false false");
    due("both the same", x.same(), 1);
    for (int slot = 0; slot < 4; slot++) {
      due("SLOT " + slot + " in a SLOT", x.between(slot, 3 - slot), 0);
      due("SLOT " + slot, x.make(0, 0, slot, 0) + " " + spelt(x, 0), "1 0");
    }
    due("the empty word is none of 0's", x.has(0), false);
  }

  // ---- promise 2

  private static void writeUpToZero() {
    says("2: eight bytes come behind it, those of w, .. up to the first one that is 0: how many it has");
    for (int zero = 0; zero < 8; zero++) {
      Prover x = new Prover();
      long w = word("abcabcab", 0) & ~(255L << 56 - 8 * zero);
      due("0 at " + zero, x.write(w), zero);
      due("bytes on the tape", x.count(6), zero);
      due("TERMS of them", x.side(0), zero == 0 ? -1 : zero + 1);
      due("they", zero == 0 ? "" : spelt(x, 0), "abcabcab".substring(0, zero));
    }
    Prover x = new Prover();
    due("no 0", x.write(word("abcabcab", 0)), 8);
    due("0 alone", x.write(0L), 8);
    due("0 ahead of others", x.write(0x00ffffffffffffffL), 8);
    due("behind it", x.write(word("c", 0)), 9);
    due("TERMS of all", x.side(0), 10);
    due("all", spelt(x, 0), "abcabcabc");
  }

  private static void writeHighestFirst() {
    says("2: those of w, the highest first");
    Prover x = new Prover();
    x.write(0x6162632861622b63L);
    x.write(0x292a000000000000L);
    x.side(0);
    due("in order", spelt(x, 0), "abc(ab+c)*");
    due("the highest bit", x.write(0x8000000000000000L), 1);
    x.side(0);
    due("it is no sign", x.fault(), 0);
    due("all bits", x.write(-1L), 8);
    due("the lowest byte alone", x.write(1L), 8);
    due("the lowest value", x.write(Long.MIN_VALUE + 1), 9);
  }

  private static void writeUpToSixty() {
    says("2: NONE, if there would be more than 60");
    Prover x = new Prover();
    for (int i = 1; i <= 6; i++) {
      due("eight more", x.write(-1L), 8 * i);
    }
    x.write(word("aaaa", 0));
    due("eight: just 60", x.write(-1L), 60);
    due("one more", x.write(word("a", 0)), -1);
    due("none more", x.write(0L), 60);
    x.side(0);
    due("place again", x.write(-1L), 8);
  }

  private static void writeTooMany() {
    says("2: NONE, and nothing comes, if there would be more than 60");
    Prover x = new Prover();
    tape(x, a(53));
    due("eight: 61", x.write(-1L), -1);
    due("nothing came", x.count(6), 53);
    due("seven: 60", x.write(word("aaaaaaa", 0)), 60);
    x = new Prover();
    tape(x, a(59));
    due("two: 61", x.write(word("aa", 0)), -1);
    due("nothing came", x.count(6), 59);
    due("one: 60", x.write(word("a", 0)), 60);
    leaves("write of one too many", r -> r.write(word("abc", 0)), -1, () -> room(a(58), "ab)"),
        () -> room(a(58), "ab)"));
  }

  // ---- promise 3

  private static void sideTellsTerms() {
    says("3: The tape is the EXPRESSION of a SIDE: how many TERMS it has");
    Prover x = new Prover();
    due("1", put(x, 0, "0"), 1);
    due("2", put(x, 0, "a+b"), 2);
    due("31", put(x, 0, a(30)), 31);
    due("of RIGHT", put(x, 1, "ab"), 3);
    due("LEFT is as it was", spelt(x, 0), a(30));
    due("RIGHT", spelt(x, 1), "ab");
    due("in two pieces", x.write(word("(a+", 0)) + x.write(word("b)c", 0)), 9);
    due("in two pieces", x.side(0) + " " + spelt(x, 0), "3 (a+b)c");
  }

  private static void sideEmptiesTheTape() {
    says("3: (empty then, here and below, whatever comes)");
    String[] texts = {"ab", "a+", ")", a(31), a(60), ""};
    for (String text : texts) {
      for (int side : new int[] {0, 1, 2, -1}) {
        Prover x = new Prover();
        put(x, side, text);
        due("behind side(" + side + ") of '" + text + "'", x.count(6), 0);
        due("the next text", put(x, 0, "ab"), 3);
        due("the next text alone", spelt(x, 0), "ab");
      }
    }
  }

  private static void sideWithFault() {
    says("3: NONE: a FAULT .. the SIDE stays");
    for (int side = 0; side < 2; side++) {
      int of = side;
      leaves("side of a FAULT", x -> x.side(of), -1, () -> room("ab+", null), () -> room("", "ab+"));
      leaves("side of nothing", x -> x.side(of), -1, () -> room("", null), () -> room("", ""));
      leaves("side of an open bracket", x -> x.side(of), -1, () -> room("a*(b", "a)"), () -> room("", "a*(b"));
    }
  }

  private static void sideOfMoreBytes() {
    says("3: a FAULT (of more than 30 bytes at 30, if none is ahead)");
    leaves("side of 31 bytes", x -> x.side(0), -1, () -> room(a(31), null), () -> room("", a(31)));
    leaves("side of 60 bytes", x -> x.side(1), -1, () -> room(a(60), null), () -> room("", a(31)));
    due("30 bytes", faultAt(a(30)), -1);
    due("31 bytes", faultAt(a(31)), 30);
    due("32 bytes", faultAt(a(32)), 30);
    due("60 bytes", faultAt(a(60)), 30);
    due("31 bytes, the last no sign", faultAt(a(30) + "?"), 30);
    due("31 bytes, a blank the last", faultAt(a(30) + " "), 30);
    due("31 bytes, an open bracket closed by the last", faultAt("(" + a(29) + ")"), 30);
    due("one ahead, at 0", faultAt(")" + a(59)), 0);
    due("one ahead, at 29", faultAt(a(29) + ")" + a(30)), 29);
    due("one ahead, at 29 of 31", faultAt(a(29) + "?a"), 29);
    due("one at 30", faultAt(a(30) + ")" + a(29)), 30);
    due("one behind, at 31", faultAt(a(31) + ")" + a(28)), 30);
    due("60 brackets", faultAt("(".repeat(60)), 30);
    due("60 blanks", faultAt(" ".repeat(60)), 30);
  }

  private static void sideNoSuch() {
    says("3: NONE: no such SIDE (no FAULT): the SIDE stays");
    for (int side : NO_SIDES) {
      leaves("side(" + side + ") of a good text", x -> x.side(side), -1, Rooms::room, () -> room("", null));
      leaves("side(" + side + ") of a FAULT", x -> x.side(side), -1, () -> room("a+", "ab)"),
          () -> room("", null));
    }
    leaves("no such SIDE, 31 bytes", x -> x.side(2), -1, () -> room(a(31), "ab)"), () -> room("", null));
  }

  // ---- promise 4

  private static void faultOfTheLatest() {
    says("4: Where the FAULT of the latest side() is");
    Prover x = new Prover();
    put(x, 0, "ab)");
    due("at 2", x.fault(), 2);
    due("it stays, asked twice", x.fault(), 2);
    put(x, 1, "+");
    due("of RIGHT, at 0", x.fault(), 0);
    tape(x, "a)");
    due("not that of a text that waits", x.fault(), 0);
    x.has(0);
    due("not that of a word", x.fault(), 0);
    x.side(1);
    due("of nothing", x.fault(), 0);
    put(x, 0, a(29) + "*+");
    due("at 30", x.fault(), 30);
    Consumer<Prover> others = y -> {
      y.swap();
      y.keep(0, 0);
      y.make(0, 0, 0, 0);
      y.make(0, 9, 0, 0);
      y.prove();
      y.cut();
      y.same();
      y.between(0, 0);
      y.again(0);
    };
    others.accept(x);
    due("it stays by others", x.fault(), 30);
  }

  private static void faultNone() {
    says("4: NONE: without");
    Prover x = new Prover();
    due("no side() yet", x.fault(), -1);
    put(x, 0, "ab");
    due("a good one", x.fault(), -1);
    put(x, 0, "a+");
    put(x, 1, "a");
    due("a good one of the other SIDE", x.fault(), -1);
    put(x, 0, "a+");
    put(x, 2, "a+");
    due("no such SIDE", x.fault(), -1);
  }

  // ---- promise 5

  private static void swapChanges() {
    says("5: LEFT and RIGHT change places");
    Prover x = of("a(b+c)", "c*");
    x.swap();
    due("LEFT", spelt(x, 0) + " " + x.shape(0, 0) + " " + x.words(0, 2), "c* 1 1");
    due("RIGHT", spelt(x, 1) + " " + x.shape(1, 0) + " " + x.words(1, 2), "a(b+c) 3 2");
    due("a TERM of RIGHT", termSpelt(x, 1, 1), "b+c");
    put(x, 0, "b");
    due("a new LEFT is LEFT alone", spelt(x, 0) + " " + spelt(x, 1), "b a(b+c)");
    x.swap();
    x.swap();
    due("twice: as they were", spelt(x, 0) + " " + spelt(x, 1), "b a(b+c)");
    x = new Prover();
    x.swap();
    due("of a new object", spelt(x, 0) + " " + spelt(x, 1), "0 0");
  }

  private static void swapLeavesTheRest() {
    says("5: swap() (tape, FAULT, SLOTS, images are as they were)");
    leaves("swap twice", x -> {
      x.swap();
      x.swap();
      return 0;
    }, 0, Rooms::room, () -> roomWithoutLines(TAPE, "ab)"));
    leaves("swap", x -> {
      x.swap();
      return 0;
    }, 0, () -> {
      Prover x = roomWithoutLines(TAPE, "ab)");
      x.swap();
      x.prove();
      return x;
    }, () -> roomWithoutLines(TAPE, "ab)"));
  }

  // ---- promise 6

  private static void keepTakes() {
    says("6: The EXPRESSION of a SIDE is kept in a SLOT: true");
    for (int side = 0; side < 2; side++) {
      for (int slot = 0; slot < 4; slot++) {
        Prover x = of("a+b", "bc");
        due("keep(" + side + ", " + slot + ")", x.keep(side, slot), true);
        put(x, side, "c");
        x.make(0, 0, slot, 0);
        due("kept, though the SIDE is new", spelt(x, 0), side == 0 ? "a+b" : "bc");
        x.make(0, 0, (slot + 1) % 4, 0);
        due("no other SLOT", spelt(x, 0), "0");
      }
    }
    Prover x = of(a(30), "b");
    x.keep(0, 3);
    x.keep(1, 3);
    due("over a longer one", x.make(0, 0, 3, 0) + " " + spelt(x, 0), "2 b");
    put(x, 0, a(30));
    x.keep(0, 3);
    due("over a shorter one", x.make(1, 0, 3, 0) + " " + spelt(x, 1), "31 " + a(30));
    leaves("keep of what is kept", r -> told(r.keep(0, 2)), 1, () -> {
      Prover r = room();
      r.keep(0, 2);
      return r;
    }, () -> {
      Prover r = room();
      r.keep(0, 2);
      return r;
    });
  }

  private static void keepNoSuch() {
    says("6: False: no such ones");
    for (int side : NO_SIDES) {
      nothing("keep(" + side + ", 0)", x -> told(x.keep(side, 0)), 0);
    }
    for (int slot : NO_SLOTS) {
      nothing("keep(0, " + slot + ")", x -> told(x.keep(0, slot)), 0);
      nothing("keep(1, " + slot + ")", x -> told(x.keep(1, slot)), 0);
    }
    nothing("keep(2, 4)", x -> told(x.keep(2, 4)), 0);
  }

  // ---- promise 7

  /** SLOTS 0 to 3: one, other, 1, 0. */
  private static Prover slots(String one, String other) {
    Prover x = of(one, other);
    x.keep(0, 0);
    x.keep(1, 1);
    put(x, 0, "1");
    x.keep(0, 2);
    return x;
  }

  private static String made(Prover x, int what, int one, int other) {
    return x.make(1, what, one, other) + " " + spelt(x, 1);
  }

  private static void makeOfSlots() {
    says("7: what 0: as kept in one, 1: a SUM of both, 2: a PRODUCT of both, 3: a star of one: how many TERMS");
    Prover x = slots("a+b", "b+c");
    due("0", made(x, 0, 1, 0), "2 b+c");
    due("1", made(x, 1, 0, 1), "2 a+b+c");
    due("1, the other way", made(x, 1, 1, 0), "2 b+c+a");
    due("1 of one twice", made(x, 1, 0, 0), "2 a+b");
    due("2", made(x, 2, 0, 1), "3 (a+b)(b+c)");
    due("2 of one twice", made(x, 2, 1, 1), "3 (b+c)(b+c)");
    due("3", made(x, 3, 1, 0), "1 (b+c)*");
    due("1 with 0", made(x, 1, 3, 0), "2 a+b");
    due("1 of 0 and 0", made(x, 1, 3, 3), "1 0");
    due("2 with 1", made(x, 2, 2, 0), "2 a+b");
    due("2 of 1 and 1", made(x, 2, 2, 2), "1 1");
    due("2 with 0", made(x, 2, 0, 3), "1 0");
    due("3 of 0", made(x, 3, 3, 0), "1 1");
    due("3 of 1", made(x, 3, 2, 0), "1 1");
    x.make(0, 3, 0, 0);
    x.keep(0, 0);
    due("3 of a star", made(x, 3, 0, 0), "1 (a+b)*");
    due("0 of LEFT", x.make(0, 0, 1, 0) + " " + spelt(x, 0), "2 b+c");
    due("RIGHT is as it was", spelt(x, 1), "(a+b)*");
    due("SLOTS are as they were", made(x, 1, 0, 1), "3 (a+b)*+b+c");
  }

  private static void makeLooksNotAtOther() {
    says("7: (by 0, 3 other is not looked at)");
    for (int other : new int[] {0, 3, 4, -1, LOW, HIGH}) {
      Prover x = slots("ab", "c");
      due("0 with other " + other, x.make(0, 0, 0, other) + " " + spelt(x, 0), "3 ab");
      due("3 with other " + other, x.make(0, 3, 1, other) + " " + spelt(x, 0), "1 c*");
    }
    for (int other : NO_SLOTS) {
      nothing("1 with other " + other, x -> x.make(0, 1, 0, other), -1);
      nothing("2 with other " + other, x -> x.make(0, 2, 0, other), -1);
    }
    Prover x = slots("ab", "c");
    due("1 with the last SLOT", made(x, 1, 0, 3), "3 ab");
    due("2 with the last SLOT", made(x, 2, 0, 3), "1 0");
  }

  private static void makeNoSuch() {
    says("7: NONE, and it stays: no such SIDE, SLOT, what");
    for (int side : NO_SIDES) {
      nothing("make(" + side + ", 0, 0, 0)", x -> x.make(side, 0, 0, 0), -1);
    }
    for (int one : NO_SLOTS) {
      for (int what = 0; what < 4; what++) {
        int of = what;
        nothing("make(0, " + what + ", " + one + ", 0)", x -> x.make(0, of, one, 0), -1);
      }
    }
    for (int what : new int[] {-1, 4, 5, LOW, HIGH}) {
      nothing("make(1, " + what + ", 0, 1)", x -> x.make(1, what, 0, 1), -1);
    }
  }

  private static void makeBytes() {
    says("7: NONE, and it stays: its SPELT SHAPE would be more than 30 bytes");
    due("a SUM of 30", slots(a(14), "b" + a(14)).make(1, 1, 0, 1), 16);
    due("a SUM of 31", slots(a(15), "b" + a(14)).make(1, 1, 0, 1), -1);
    due("a SUM of 30 with 0", slots(a(30), "0").make(1, 1, 0, 1), 31);
    due("a SUM of 30 with itself", slots(a(30), "0").make(1, 1, 0, 0), 31);
    due("a SUM, one of its parts is there", slots("b+" + a(28), "b").make(1, 1, 0, 1), 29);
    due("a SUM of 30 with another", slots("b+" + a(28), "c").make(1, 1, 0, 1), -1);
    due("a PRODUCT of 30", slots(a(15), a(15)).make(1, 2, 0, 1), 31);
    due("a PRODUCT of 31", slots(a(15), a(16)).make(1, 2, 0, 1), -1);
    due("a PRODUCT of 60", slots(a(30), a(30)).make(1, 2, 0, 1), -1);
    due("a PRODUCT of 30 with 1", slots(a(30), "1").make(1, 2, 0, 1), 31);
    due("a PRODUCT of 30 with 0", slots(a(30), "0").make(1, 2, 0, 1), 1);
    due("a PRODUCT with brackets of 30", slots("a+b", a(25)).make(1, 2, 0, 1), 27);
    due("a PRODUCT with brackets of 31", slots("a+b", a(26)).make(1, 2, 0, 1), -1);
    due("a PRODUCT with two brackets of 30", slots("a+" + a(10), "b+" + a(12)).make(1, 2, 0, 1), 23);
    due("a PRODUCT with two brackets of 31", slots("a+" + a(11), "b+" + a(12)).make(1, 2, 0, 1), -1);
    due("a star of 30", slots(a(27), "0").make(1, 3, 0, 0), 27);
    due("a star of 31", slots(a(28), "0").make(1, 3, 0, 0), -1);
    due("a star of 33", slots(a(30), "0").make(1, 3, 0, 0), -1);
    due("a star of a SUM of 30", slots("b+" + a(25), "0").make(1, 3, 0, 0), 25);
    due("a star of a SUM of 31", slots("b+" + a(26), "0").make(1, 3, 0, 0), -1);
    due("a star of a star of 30", slots("(" + a(27) + ")*", "0").make(1, 3, 0, 0), 27);
    due("as kept, 30", slots(a(30), "0").make(1, 0, 0, 0), 31);
    for (int what = 1; what <= 3; what++) {
      int of = what;
      leaves("make of more than 30 bytes, what " + what, x -> x.make(0, of, 0, 1), -1, EdgeCallsTest::longSlots,
          EdgeCallsTest::longSlots);
    }
  }

  /** A room whose SLOTS 0 and 1 are too long for each other. */
  private static Prover longSlots() {
    Prover x = withSides();
    put(x, 0, a(30));
    x.keep(0, 0);
    put(x, 0, "b" + a(29));
    x.keep(0, 1);
    put(x, 0, "a*b");
    put(x, 1, "a)");
    x.prove();
    x.cut();
    tape(x, TAPE);
    return x;
  }

  private static void makeLeavesTheRest() {
    says("7: A SIDE is made of SLOTS (tape, FAULT, SLOTS, images are as they were)");
    leaves("make of both", x -> x.make(0, 2, 0, 1), 6, Rooms::room, () -> {
      Prover x = withSides();
      put(x, 0, "(a+bc)(ab+a*)");
      put(x, 1, "ab)");
      tape(x, TAPE);
      return x;
    });
  }

  // ---- promise 8

  private static void shapeNumbers() {
    says("8: Of a SIDE, what 0: TERMS, 1: FULL, 2: bytes of its SPELT SHAPE, 3: LETTERS in that, 4: stars");
    Prover x = of(" ( a + b + a + 0 ) ** (1) c* ", a(30));
    due("SPELT", spelt(x, 0), "(a+b)*c*");
    due("its numbers", x.shape(0, 0) + " " + x.shape(0, 1) + " " + x.shape(0, 2) + " " + x.shape(0, 3) + " "
        + x.shape(0, 4), "2 1 8 3 2");
    due("of 30 letters", x.shape(1, 0) + " " + x.shape(1, 1) + " " + x.shape(1, 2) + " " + x.shape(1, 3) + " "
        + x.shape(1, 4), "31 0 30 30 0");
    x = of("0a", "0*");
    due("of 0", x.shape(0, 0) + " " + x.shape(0, 1) + " " + x.shape(0, 2) + " " + x.shape(0, 3) + " "
        + x.shape(0, 4), "1 0 1 0 0");
    due("of 1", x.shape(1, 0) + " " + x.shape(1, 1) + " " + x.shape(1, 2) + " " + x.shape(1, 3) + " "
        + x.shape(1, 4), "1 1 1 0 0");
  }

  private static void shapeOfNothing() {
    says("8: 5: 1 if it has no words, else 0, 7: how many LETTERS its shortest word has (NONE: none)");
    String[] texts = {"0", "a0+0b", "1", "0*", "a", "ab+c", "a*b", "(a+b)(1+c)c", a(30)};
    String[] want = {"1 -1", "1 -1", "0 0", "0 0", "0 1", "0 1", "0 1", "0 2", "0 30"};
    for (int i = 0; i < texts.length; i++) {
      Prover x = of(texts[i], "0");
      due("5, 7 of " + texts[i], x.shape(0, 5) + " " + x.shape(0, 7), want[i]);
    }
  }

  private static void shapeFinite() {
    says("8: 6: 1 if it has finitely many, else 0");
    for (String text : new String[] {"0", "1", "a", "ab+c", "0*", "1*", "a0*", "(1+1)*b", "0a*", "(0a)*"}) {
      due("finitely many: " + text, of(text, "0").shape(0, 6), 1);
    }
    for (String text : new String[] {"a*", "ba*", "b+a*", "(1+a)*", "0+a*1", "(a(b*))(1+1)"}) {
      due("not so: " + text, of(text, "0").shape(0, 6), 0);
    }
  }

  private static void shapeStars() {
    says("8: 8: how many stars stand in one another at most");
    String[] texts = {"0", "a", "a*", "a**", "a*b*", "(a*b)*", "(a*)*", "(a*b)*+c*", "a*+(b(c+a*)*)*", "0*",
        "(((((((a*b)*b)*b)*b)*b)*b)*b)*"};
    int[] want = {0, 0, 1, 1, 1, 2, 1, 2, 3, 0, 8};
    for (int i = 0; i < texts.length; i++) {
      due("8 of " + texts[i], of(texts[i], "0").shape(0, 8), want[i]);
    }
  }

  private static void shapeBytes() {
    says("8: 10 + i: the i-th byte of its SPELT SHAPE");
    Prover x = of("(a)+b", a(29) + "c");
    due("the first", x.shape(0, 10), 'a');
    due("the last", x.shape(0, 12), 'b');
    due("behind it", x.shape(0, 13), -1);
    due("the 30th", x.shape(1, 39), 'c');
    due("behind it", x.shape(1, 40), -1);
    put(x, 1, "a");
    due("of a shorter one", x.shape(1, 10) + " " + x.shape(1, 11), "97 -1");
  }

  private static void shapeOthers() {
    says("8: NONE for another SIDE, what");
    Prover x = of("a*(b+c)", a(30));
    for (int side : NO_SIDES) {
      all("SIDE " + side, -1, x.shape(side, 0), x.shape(side, 2), x.shape(side, 6), x.shape(side, 10));
    }
    for (int what : new int[] {-1, 9, 40, 41, -10, LOW, LOW + 9, LOW + 10, LOW + 20, HIGH, HIGH - 10}) {
      all("what " + what, -1, x.shape(0, what), x.shape(1, what));
    }
    nothing("shape(2, 0)", r -> r.shape(2, 0), -1);
    nothing("shape(0, 9)", r -> r.shape(0, 9), -1);
    nothing("shape(1, 40)", r -> r.shape(1, 40), -1);
  }

  // ---- promise 9

  private static void termNumbers() {
    says("9: Of a TERM, what 0: FULL, 1: bytes of it SPELT, 2: the SET of its PARTS by a, 3: b, 4: c, 10 + i");
    Prover x = of("a*(b+c)+c", "0");
    due("TERM 0", termSpelt(x, 0, 0), "a*(b+c)+c");
    due("TERM 0", x.term(0, 0, 0) + " " + x.term(0, 0, 1) + " " + x.term(0, 0, 2) + " " + x.term(0, 0, 3) + " "
        + x.term(0, 0, 4), "0 9 2 4 4");
    due("TERM 1", termSpelt(x, 0, 1), "a*(b+c)");
    due("TERM 1", x.term(0, 1, 0) + " " + x.term(0, 1, 1) + " " + x.term(0, 1, 2) + " " + x.term(0, 1, 3) + " "
        + x.term(0, 1, 4), "0 7 2 4 4");
    due("the last one", termSpelt(x, 0, 2), "1");
    due("the last one", x.term(0, 2, 0) + " " + x.term(0, 2, 1) + " " + x.term(0, 2, 2) + " " + x.term(0, 2, 3)
        + " " + x.term(0, 2, 4), "1 1 0 0 0");
    due("of 0", x.term(1, 0, 0) + " " + x.term(1, 0, 1) + " " + x.term(1, 0, 10), "0 1 48");
    String longest = "a*b(a*b)*b((a*b)*b)*b(((a*b)*b)*b)*b((((a*b)*b)*b)*b)*b(((((a*b)*b)*b)*b)*b)*b"
        + "((((((a*b)*b)*b)*b)*b)*b)*b(((((((a*b)*b)*b)*b)*b)*b)*b)*";
    x = of("(((((((a*b)*b)*b)*b)*b)*b)*b)*", "0");
    due("one of more than 30 bytes", termSpelt(x, 0, 1), longest);
    due("its bytes", x.term(0, 1, 1), longest.length());
  }

  private static void termNoSuch() {
    says("9: NONE: there is none such, another what");
    Prover x = of("abc", a(30));
    due("the last of LEFT", x.term(0, 3, 0), 1);
    due("the last of RIGHT", x.term(1, 30, 0), 1);
    for (int term : new int[] {-1, 4, 5, 31, 32, 33, -32, LOW, HIGH}) {
      all("TERM " + term, -1, x.term(0, term, 0), x.term(0, term, 1), x.term(0, term, 2), x.term(0, term, 10));
    }
    for (int term : new int[] {-1, 31, 32, 62, LOW, HIGH}) {
      all("TERM " + term, -1, x.term(1, term, 0), x.term(1, term, 1), x.term(1, term, 4), x.term(1, term, 10));
    }
    for (int side : NO_SIDES) {
      all("SIDE " + side, -1, x.term(side, 0, 0), x.term(side, 0, 10));
    }
    for (int what : new int[] {-1, 5, 6, 7, 8, 9, 13, 14, -10, LOW, LOW + 10, HIGH}) {
      due("what " + what, x.term(0, 0, what), -1);
    }
    due("the last byte of TERM 1", x.term(0, 1, 11), 'c');
    due("not a byte of the next TERM", x.term(0, 1, 12), -1);
    put(x, 0, "a");
    all("TERMS that are gone", -1, x.term(0, 2, 0), x.term(0, 3, 1));
    nothing("term(2, 0, 0)", r -> r.term(2, 0, 0), -1);
    nothing("term(0, 31, 2)", r -> r.term(0, 31, 2), -1);
    nothing("term(0, 0, 9)", r -> r.term(0, 0, 9), -1);
  }

  // ---- promise 10

  private static void likeTerms() {
    says("10: The number of the TERM of a SIDE that is LIKE a TERM of the other one");
    // LEFT: abc bc c 1; RIGHT: ca+bc c a 1
    Prover x = of("abc", "ca+bc");
    due("LEFT's for RIGHT's", x.like(0, 0) + " " + x.like(0, 1) + " " + x.like(0, 2) + " " + x.like(0, 3),
        "-1 2 -1 3");
    due("RIGHT's for LEFT's", x.like(1, 0) + " " + x.like(1, 1) + " " + x.like(1, 2) + " " + x.like(1, 3),
        "-1 -1 1 3");
    x = of(a(30), a(30));
    due("the last of 31", x.like(0, 30) + " " + x.like(1, 30), "30 30");
    x = new Prover();
    due("0 and 0", x.like(0, 0) + " " + x.like(1, 0), "0 0");
  }

  private static void likeNone() {
    says("10: NONE: none, none such");
    Prover x = of("abc", "ab");
    due("the last of RIGHT", x.like(0, 2), 3);
    all("no such TERM of RIGHT", -1, x.like(0, 3), x.like(0, -1), x.like(0, 32), x.like(0, LOW), x.like(0, HIGH));
    due("the last of LEFT", x.like(1, 3), 2);
    all("no such TERM of LEFT", -1, x.like(1, 4), x.like(1, -1), x.like(1, 32), x.like(1, LOW), x.like(1, HIGH));
    for (int side : NO_SIDES) {
      due("SIDE " + side, x.like(side, 0), -1);
    }
    due("none is LIKE", of("a+b", "b+a").like(0, 0), -1);
    due("one that begins so", of("ab+ac", "ab").like(0, 0), -1);
    nothing("like(2, 0)", r -> r.like(2, 0), -1);
    nothing("like(0, 31)", r -> r.like(0, 31), -1);
    nothing("like(0, 0)", r -> r.like(0, 0), -1);
  }

  // ---- promise 11

  private static void hasWord() {
    says("11: The tape tells a word (a, b, c; 30 at most): whether it is a word of a SIDE");
    Prover x = of("(a+b)*c+1", "(ab)*");
    due("the empty word, of LEFT", x.has(0), true);
    due("the empty word, of RIGHT", x.has(1), true);
    due("one", has(x, 0, "c"), true);
    due("30 LETTERS", has(x, 0, "ab".repeat(14) + "ac"), true);
    due("30 LETTERS of RIGHT", has(x, 1, "ab".repeat(15)), true);
    due("29 LETTERS of RIGHT", has(x, 1, "ab".repeat(14) + "a"), false);
    due("not of LEFT", has(x, 0, "ab"), false);
    due("of RIGHT", has(x, 1, "ab"), true);
    due("longer than all", has(of("abc", "0"), 0, "abca"), false);
    due("as long as all", has(of("abc", "0"), 0, "abc"), true);
    due("a SIDE without words", has(new Prover(), 0, ""), false);
    due("31 LETTERS", has(of("a*", "a*"), 0, a(31)), false);
    due("60 LETTERS", has(of("a*", "a*"), 1, a(60)), false);
    due("30 LETTERS", has(of("a*", "a*"), 1, a(30)), true);
  }

  private static void hasEmptiesTheTape() {
    says("11: has() (the tape is empty then, whatever comes)");
    for (String text : new String[] {"", "a", "aaa", "b", "?", "a ", a(30), a(31), a(60)}) {
      for (int side : new int[] {0, 1, 2, -1}) {
        Prover x = of("a*", "b");
        tape(x, text);
        x.has(side);
        due("behind has(" + side + ") of '" + text + "'", x.count(6), 0);
        due("the next word alone", has(x, 1, "b"), true);
      }
    }
    leaves("has", x -> told(x.has(0)), 1, () -> room("ab", "ab)"), () -> room("", "ab)"));
  }

  private static void hasNoSuch() {
    says("11: False: no such word, SIDE");
    Prover x = of("(a+b+c)*", "(a+b+c)*");
    for (int b = 1; b < 256; b++) {
      x = b == 128 ? of("(a+b+c)*", "(a+b+c)*") : x;
      due("byte " + b, has(x, b % 2, "" + (char) b), b == 'a' || b == 'b' || b == 'c');
    }
    none("a LETTER too low, too high, where there are several TERMS", has(of("ba", "0"), 0, "d"),
        has(of("ba", "0"), 0, "bd"), has(of("cab", "0"), 0, "`ab"), has(of("ba", "cab"), 1, "d"));
    none("other bytes among LETTERS", has(x, 0, "a b"), has(x, 0, "ab "), has(x, 0, " ab"), has(x, 0, "a*"),
        has(x, 0, "ab1"), has(x, 0, "1"), has(x, 0, a(29) + "d"));
    for (int side : NO_SIDES) {
      leaves("has(" + side + ")", r -> told(r.has(side)), 0, () -> room("ab", "ab)"), () -> room("", "ab)"));
      due("has(" + side + ") of the empty word", x.has(side), false);
    }
    leaves("has of no word", r -> told(r.has(0)), 0, () -> room("a+b", "ab)"), () -> room("", "ab)"));
    leaves("has of 31", r -> told(r.has(0)), 0, () -> room(a(31), "ab)"), () -> room("", "ab)"));
  }

  // ---- promise 12

  private static String counts(Prover x, int n) {
    StringBuilder out = new StringBuilder();
    for (int which = 0; which < 6; which++) {
      out.append(which == 0 ? "" : " ").append(x.words(which, n));
    }
    return out.toString();
  }

  private static void wordsOfLengths() {
    says("12: Words of n LETTERS (0 .. 8), which 0: of LEFT, 1: RIGHT, 2: both, 3: LEFT alone, 4: RIGHT alone, "
        + "5: neither: how many");
    Prover x = of("(a+b)*", "(b+c)*a");
    due("of none", counts(x, 0), "1 0 0 1 0 0");
    due("of 1", counts(x, 1), "2 1 1 1 0 1");
    due("of 3", counts(x, 3), "8 4 1 7 3 16");
    due("of 8", counts(x, 8), "256 128 1 255 127 6178");
    x = of("(a+b+c)*", "0");
    due("all, none", counts(x, 8), "6561 0 0 6561 0 0");
    due("all, none, the empty one", counts(x, 0), "1 0 0 1 0 0");
    x = new Prover();
    due("neither", counts(x, 8), "0 0 0 0 0 6561");
    due("neither, the empty one", counts(x, 0), "0 0 0 0 0 1");
    x = of("1", "1");
    due("the empty one of both", counts(x, 0), "1 1 1 0 0 0");
    due("no other", counts(x, 1), "0 0 0 0 0 3");
  }

  private static void wordsOthers() {
    says("12: NONE: others");
    Prover x = of("(a+b+c)*", "1");
    for (int n : new int[] {-1, 9, 10, LOW, HIGH}) {
      for (int which = 0; which < 6; which++) {
        due("words(" + which + ", " + n + ")", x.words(which, n), -1);
      }
    }
    for (int which : new int[] {-1, 6, 7, LOW, HIGH}) {
      all("words(" + which + ", ..)", -1, x.words(which, 0), x.words(which, 1), x.words(which, 8));
    }
    nothing("words(6, 1)", r -> r.words(6, 1), -1);
    nothing("words(0, 9)", r -> r.words(0, 9), -1);
  }

  // ---- promise 13

  private static void wordNumbers() {
    says("13: The k-th of these words, by the alphabet, as a number: of its LETTERS 1, 2, 3 the first one times "
        + "4 to the n - 1, and so on (0: the empty word)");
    Prover x = of("(a+b+c)*", "(a+c)b*");
    due("the empty word", x.word(0, 0, 0), 0);
    due("a, b, c", x.word(0, 1, 0) + " " + x.word(0, 1, 1) + " " + x.word(0, 1, 2), "1 2 3");
    due("aa, ab, ac, ba", x.word(0, 2, 0) + " " + x.word(0, 2, 1) + " " + x.word(0, 2, 2) + " " + x.word(0, 2, 3),
        "5 6 7 9");
    due("cc", x.word(0, 2, 8), 15);
    due("the first of 8", x.word(0, 8, 0), 21845);
    due("the last of 8", x.word(0, 8, 6560), 65535);
    due("RIGHT's, by the alphabet", x.word(1, 2, 0) + " " + x.word(1, 2, 1), "6 14");
    due("both's", x.word(2, 2, 1), 14);
    due("LEFT's alone", x.word(3, 2, 0) + " " + x.word(3, 2, 6), "5 15");
    x.swap();
    due("RIGHT's alone", x.word(4, 2, 0) + " " + x.word(4, 2, 6), "5 15");
    due("neither's", of("a", "b").word(5, 1, 0), 3);
    due("neither's, the empty word", of("a", "b").word(5, 0, 0), 0);
  }

  private static void wordNotSoMany() {
    says("13: NONE: not so many");
    Prover x = of("(a+b+c)*", "(a+c)b*");
    due("the last of RIGHT", x.word(1, 8, 1), 3 * 16384 + 2 * 5461);
    all("behind the last", -1, x.word(1, 8, 2), x.word(0, 8, 6561), x.word(0, 0, 1), x.word(1, 0, 0),
        x.word(4, 3, 0), x.word(5, 8, 0), x.word(0, 1, 3), x.word(0, 1, HIGH));
    all("ahead of the first", -1, x.word(0, 1, -1), x.word(0, 0, -1), x.word(0, 8, LOW), x.word(1, 1, -2));
    nothing("word(0, 2, 4)", r -> r.word(0, 2, 4), -1);
    nothing("word(0, 2, -1)", r -> r.word(0, 2, -1), -1);
  }

  private static void wordOthers() {
    says("13: NONE: others");
    Prover x = of("(a+b+c)*", "(a+b+c)*");
    for (int which : new int[] {-1, 6, LOW, HIGH}) {
      all("which " + which, -1, x.word(which, 0, 0), x.word(which, 1, 0), x.word(which, 8, 0));
    }
    for (int n : new int[] {-1, 9, LOW, HIGH}) {
      all("n " + n, -1, x.word(0, n, 0), x.word(1, n, 0), x.word(2, n, 0), x.word(5, n, 0));
    }
    nothing("word(6, 1, 0)", r -> r.word(6, 1, 0), -1);
    nothing("word(0, 9, 0)", r -> r.word(0, 9, 0), -1);
  }
}
