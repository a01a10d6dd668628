import java.util.Random;

/** Long runs of calls by chance (always the same ones), each answer held against the Oracle's. */
public final class OracleTest {
  private static final int RUNS = 1500;
  /** Bytes of a text: more than the tape takes. */
  private static final int LONGEST = 72;
  /** The most calls that one round takes: those of the longest text, side(), fault(). */
  private static final int ROUND = LONGEST / 8 + 2;

  private final Random random;
  private final Prover prover = new Prover();
  private final Oracle oracle = new Oracle();
  private final StringBuilder told = new StringBuilder();

  private OracleTest(long seed) {
    random = new Random(seed);
  }

  public static void main(String[] args) {
    int wrong = 0;
    for (int seed = 0; seed < RUNS && wrong < 5; seed++) {
      OracleTest test = new OracleTest(seed);
      if (!test.agrees()) {
        wrong++;
        System.out.println("seed " + seed + test.told);
      }
    }
    System.out.println(RUNS + " runs by chance, wrong: " + wrong + ", calls beyond the promised: " + Prover.beyond);
    if (wrong != 0 || Prover.beyond != 0) {
      System.exit(1);
    }
  }

  private boolean agrees() {
    while (prover.calls() <= Prover.PROMISED - ROUND) {
      if (!callOnce(random.nextInt(34))) {
        return false;
      }
    }
    return true;
  }

  private boolean due(String call, int got, int want) {
    told.append("\n  ").append(call).append(" = ").append(got);
    if (got != want) {
      told.append(", the oracle says ").append(want);
    }
    return got == want;
  }

  private boolean due(String call, boolean got, boolean want) {
    return due(call, got ? 1 : 0, want ? 1 : 0);
  }

  /** Mostly a number below n, now and then one outside. */
  private int some(int n) {
    return random.nextInt(12) == 0 ? random.nextInt(7) - 3 + random.nextInt(2) * n : random.nextInt(n);
  }

  private int any() {
    int[] odd = {Integer.MIN_VALUE, Integer.MAX_VALUE, -1, -2, 9, 10, 300, 31, 32, 0x7fffffff, 1 << 30};
    return random.nextInt(10) == 0 ? odd[random.nextInt(odd.length)] : some(6);
  }

  private int what(int n) {
    return random.nextInt(3) == 0 ? 10 + some(8) : random.nextInt(20) == 0 ? any() : some(n);
  }

  private boolean callOnce(int kind) {
    int a = some(2);
    int b = some(4);
    int c = some(4);
    switch (kind) {
      case 0, 1, 2, 3, 4, 5, 6: return expression(a);
      case 7: return word(a);
      case 8: {
        prover.swap();
        oracle.swap();
        told.append("\n  swap()");
        return true;
      }
      case 9, 10: return due("keep " + a + " " + b, prover.keep(a, b), oracle.keep(a, b));
      case 11, 12: {
        int w = some(4);
        return due("make " + a + " " + w + " " + b + " " + c, prover.make(a, w, b, c),
            oracle.make(a, w, b, c));
      }
      case 13: {
        int w = what(9);
        return due("shape " + a + " " + w, prover.shape(a, w), oracle.shape(a, w));
      }
      case 14, 15: {
        int t = some(6);
        int w = what(5);
        return due("term " + a + " " + t + " " + w, prover.term(a, t, w), oracle.term(a, t, w));
      }
      case 16: {
        int t = some(6);
        return due("like " + a + " " + t, prover.like(a, t), oracle.like(a, t));
      }
      case 17: {
        int w = some(6);
        int n = random.nextInt(20) == 0 ? any() : some(5);
        return due("words " + w + " " + n, prover.words(w, Math.min(n, 9)), oracle.words(w, Math.min(n, 9)));
      }
      case 18: {
        int w = some(6);
        int n = some(5);
        int k = random.nextInt(3) == 0 ? random.nextInt(40) : any();
        return due("word " + w + " " + n + " " + k, prover.word(w, n, k), oracle.word(w, n, k));
      }
      case 19, 20, 21: return due("prove", prover.prove(), oracle.prove());
      case 22: {
        int w = any();
        return due("apart " + w, prover.apart(w), oracle.apart(w));
      }
      default: return callProof(kind, a, b, c);
    }
  }

  private boolean callProof(int kind, int a, int b, int c) {
    int lines = Math.max(1, prover.count(0));
    int at = some(lines);
    int w = what(4);
    switch (kind) {
      case 23: {
        int of = some(7);
        return due("count " + of, prover.count(of), oracle.count(of));
      }
      case 24, 25: return due("line " + at + " " + w, prover.line(at, w), oracle.line(at, w));
      case 26, 27: {
        int v = random.nextInt(3) == 0 ? any() : some(lines);
        return due("alter " + at + " " + w + " " + v, prover.alter(at, w, v), oracle.alter(at, w, v));
      }
      case 28: return random.nextInt(3) > 0 || due("cut", prover.cut(), oracle.cut());
      case 29: return due("check", prover.check(), oracle.check());
      case 30: {
        int of = some(3);
        return due("why " + of, prover.why(of), oracle.why(of));
      }
      case 31: return due("same", prover.same(), oracle.same());
      case 32: return due("between " + b + " " + c, prover.between(b, c), oracle.between(b, c));
      default:
        return random.nextBoolean() ? due("image " + a, prover.image(a), oracle.image(a))
            : due("again " + a, prover.again(a), oracle.again(a));
    }
  }

  private boolean write(String text) {
    for (int i = 0; i < text.length(); i += 8) {
      long w = 0;
      for (int j = 0; j < 8; j++) {
        w = w << 8 | (i + j < text.length() ? text.charAt(i + j) : 0);
      }
      if (!due("write '" + text.substring(i, Math.min(text.length(), i + 8)) + "'", prover.write(w),
          oracle.write(w))) {
        return false;
      }
    }
    return true;
  }

  private boolean expression(int side) {
    String text = sum(random.nextInt(4) + 1);
    if (random.nextInt(6) == 0) {
      int at = random.nextInt(text.length() + 1);
      text = text.substring(0, at) + " +*()01abcd\u00ff".charAt(random.nextInt(12)) + text.substring(at);
    }
    if (random.nextInt(4) != 0 && text.length() > 30) {
      return true;
    }
    text = text.substring(0, Math.min(text.length(), LONGEST));
    return write(text) && (random.nextInt(30) == 0 || due("side " + side, prover.side(side), oracle.side(side)))
        && due("fault", prover.fault(), oracle.fault());
  }

  private boolean word(int side) {
    StringBuilder word = new StringBuilder();
    for (int n = random.nextInt(random.nextInt(5) == 0 ? 33 : 6); n > 0; n--) {
      word.append((char) ('a' + random.nextInt(random.nextInt(40) == 0 ? 4 : 3)));
    }
    return write(word.toString()) && due("has " + side, prover.has(side), oracle.has(side));
  }

  private String sum(int depth) {
    StringBuilder out = new StringBuilder(product(depth));
    while (random.nextInt(5) < 2) {
      out.append(random.nextInt(20) == 0 ? " + " : "+").append(product(depth));
    }
    return out.toString();
  }

  private String product(int depth) {
    StringBuilder out = new StringBuilder(factor(depth));
    while (random.nextInt(5) < 3) {
      out.append(factor(depth));
    }
    return out.toString();
  }

  private String factor(int depth) {
    String out = depth > 0 && random.nextInt(3) == 0 ? "(" + sum(depth - 1) + ")"
        : String.valueOf("aaaabbbbaaabbc01".charAt(random.nextInt(16)));
    while (random.nextInt(4) == 0) {
      out += "*";
    }
    return out;
  }
}
