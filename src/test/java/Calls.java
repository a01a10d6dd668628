/** What the tests share: answers held against those that are due, texts written and told. */
abstract class Calls {
  static final int LOW = Integer.MIN_VALUE;
  static final int HIGH = Integer.MAX_VALUE;

  private static int wrong = 0;
  private static int answers = 0;
  private static String words = "";

  /** The document's words that the next answers are held against. */
  static void says(String sentence) {
    words = sentence;
  }

  static void due(String call, int got, int want) {
    due(call, String.valueOf(got), String.valueOf(want));
  }

  static void due(String call, boolean got, boolean want) {
    due(call, got ? "true" : "false", want ? "true" : "false");
  }

  static void due(String call, String got, String want) {
    answers++;
    if (!got.equals(want)) {
      wrong++;
      System.out.println(words + ": " + call + " is '" + got + "', due is '" + want + "'");
    }
  }

  /** Every one of several answers is the one that is due. */
  static void all(String call, int want, int... got) {
    for (int i = 0; i < got.length; i++) {
      due(call + ", the call " + i + " of these", got[i], want);
    }
  }

  static void none(String call, boolean... got) {
    for (int i = 0; i < got.length; i++) {
      due(call + ", the call " + i + " of these", got[i], false);
    }
  }

  static void end() {
    if (Prover.beyond > 0) {
      wrong++;
      System.out.println("the test itself goes beyond " + Prover.PROMISED + " calls of an object");
    }
    System.out.println(answers + " answers, " + wrong + " wrong");
    if (wrong != 0) {
      System.exit(1);
    }
  }

  static void tape(Prover x, String text) {
    for (int i = 0; i < text.length(); i += 8) {
      x.write(word(text, i));
    }
  }

  /** Eight bytes of a text, as write() takes them; 0 behind its end. */
  static long word(String text, int from) {
    long w = 0;
    for (int i = from; i < from + 8; i++) {
      w = w << 8 | (i < text.length() ? text.charAt(i) : 0);
    }
    return w;
  }

  static int put(Prover x, int side, String text) {
    tape(x, text);
    return x.side(side);
  }

  static Prover of(String left, String right) {
    Prover x = new Prover();
    put(x, 0, left);
    put(x, 1, right);
    return x;
  }

  /** With the LINES of its SEARCH. */
  static Prover proved(String left, String right) {
    Prover x = of(left, right);
    x.prove();
    return x;
  }

  static String a(int n) {
    return "a".repeat(n);
  }

  static String spelt(Prover x, int side) {
    StringBuilder out = new StringBuilder();
    int bytes = x.shape(side, 2);
    for (int i = 0; i < bytes; i++) {
      out.append((char) x.shape(side, 10 + i));
    }
    due("behind the bytes of " + out, x.shape(side, 10 + bytes), -1);
    return out.toString();
  }

  static String termSpelt(Prover x, int side, int term) {
    StringBuilder out = new StringBuilder();
    int bytes = x.term(side, term, 1);
    for (int i = 0; i < bytes; i++) {
      out.append((char) x.term(side, term, 10 + i));
    }
    due("behind the bytes of " + out, x.term(side, term, 10 + bytes), -1);
    return out.toString();
  }

  static String terms(String text) {
    Prover x = of(text, "0");
    StringBuilder out = new StringBuilder();
    int n = x.shape(0, 0);
    for (int i = 0; i < n; i++) {
      out.append(i == 0 ? "" : " ").append(termSpelt(x, 0, i));
    }
    return out.toString();
  }

  static String shapeOf(String text) {
    return spelt(of(text, "0"), 0);
  }

  /** TERM, SET, RULE and PREMISES of a LINE. */
  static String lineOf(Prover x, int line) {
    StringBuilder out = new StringBuilder();
    out.append(x.line(line, 0)).append(' ').append(x.line(line, 1)).append(' ').append(x.line(line, 2));
    int premises = x.line(line, 3);
    for (int i = 0; i < premises; i++) {
      out.append(' ').append(x.line(line, 10 + i));
    }
    return out.toString();
  }

  static String linesOf(Prover x) {
    StringBuilder out = new StringBuilder();
    int n = x.count(0);
    for (int i = 0; i < n; i++) {
      out.append(i == 0 ? "" : ", ").append(lineOf(x, i));
    }
    return out.toString();
  }

  /** How many LETTERS the SEPARATING word has, and they. */
  static String apartOf(Prover x) {
    StringBuilder out = new StringBuilder();
    int n = x.apart(0);
    for (int i = 0; i < n; i++) {
      out.append((char) ('a' - 1 + x.apart(1 + i)));
    }
    return n + " " + out;
  }

  static String whyOf(Prover x) {
    return x.why(0) + " " + x.why(1) + " " + x.why(2);
  }

  static int faultAt(String text) {
    Prover x = new Prover();
    int n = put(x, 0, text);
    int fault = x.fault();
    due("side of " + text, n, fault == -1 ? x.shape(0, 0) : -1);
    return fault;
  }

  static boolean has(Prover x, int side, String word) {
    tape(x, word);
    return x.has(side);
  }
}
