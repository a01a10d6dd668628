import java.util.List;
import java.util.Random;

/** EXPRESSIONS of nearly 30 bytes: their TERMS, and whole SEARCHES, line by line as the Oracle's. */
public final class LongTest {
  private static final int ROUNDS = 1500;
  private static final Random RANDOM = new Random(30);
  private static final int[] OUTCOMES = new int[3];
  private static int longestTerm = 0;
  private static int mostTerms = 0;
  private static int mostPremises = 0;
  private static int cutShort = 0;

  public static void main(String[] args) {
    InclusionProver prover = new InclusionProver();
    for (int i = 0; i < ROUNDS; i++) {
      String left = i % 10 == 0 ? twoCycles() : expression(i % 3);
      String right = i % 10 == 0 ? cycles() : i % 7 == 0 ? left : expression(i / 4 % 3);
      String fault = i % 100 == 0 ? differs(new InclusionProver(), left, right) : differs(prover, left, right);
      if (fault != null) {
        System.out.println(left + " in " + right + ": " + fault);
        System.exit(1);
      }
    }
    System.out.println("proved " + OUTCOMES[0] + ", separated " + OUTCOMES[1] + ", given up " + OUTCOMES[2]
        + " (" + cutShort + " with lines of the line in turn); longest term " + longestTerm
        + ", most terms " + mostTerms + ", most premises " + mostPremises);
    if (OUTCOMES[0] == 0 || OUTCOMES[1] == 0 || OUTCOMES[2] == 0 || cutShort == 0) {
      System.out.println("a kind of outcome did not come");
      System.exit(1);
    }
  }

  private static String differs(InclusionProver p, String left, String right) {
    List<Oracle.Shape> ls = Oracle.termsOf(Oracle.read(left));
    List<Oracle.Shape> rs = Oracle.termsOf(Oracle.read(right));
    String fault = differsSide(p, 0, left, ls);
    fault = fault != null ? fault : differsSide(p, 1, right, rs);
    if (fault != null) {
      return fault;
    }
    Oracle.Found found = Oracle.search(ls.get(0), rs.get(0));
    int outcome = p.prove();
    OUTCOMES[outcome]++;
    if (outcome != found.outcome || p.count(0) != found.lines.size()) {
      return "outcome " + outcome + ", " + p.count(0) + " lines";
    }
    for (int i = 0; i < found.lines.size(); i++) {
      if (!sameLine(p, i, found.lines.get(i))) {
        return "line " + i;
      }
    }
    if (outcome == 2) {
      noteCutShort(p);
    }
    int[] kernel = Oracle.kernel(ls.get(0), rs.get(0), found.lines);
    if (p.check() != kernel[0] || (outcome == 0 && kernel[0] != -1)) {
      return "check " + p.check();
    }
    return outcome == 1 ? differsApart(p, ls.get(0), rs.get(0), found.word) : null;
  }

  private static String differsSide(InclusionProver p, int side, String text, List<Oracle.Shape> terms) {
    for (int i = 0; i < text.length(); i += 8) {
      long w = 0;
      for (int j = 0; j < 8; j++) {
        w = w << 8 | (i + j < text.length() ? text.charAt(i + j) : 0);
      }
      p.write(w);
    }
    int n = p.side(side);
    mostTerms = Math.max(mostTerms, n);
    if (n != terms.size()) {
      return n + " terms";
    }
    for (int i = 0; i < n; i++) {
      String told = terms.get(i).told();
      longestTerm = Math.max(longestTerm, told.length());
      boolean good = p.term(side, i, 1) == told.length()
          && p.term(side, i, 0) == (terms.get(i).full() ? 1 : 0);
      for (int j = 0; j < told.length(); j++) {
        good = good && p.term(side, i, 10 + j) == told.charAt(j);
      }
      for (int x = 0; x < 3; x++) {
        good = good && p.term(side, i, 2 + x) == Oracle.setOf(terms, i, (char) ('a' + x));
      }
      if (!good) {
        return "term " + i + " of side " + side;
      }
    }
    return null;
  }

  private static boolean sameLine(InclusionProver p, int i, Oracle.Line line) {
    boolean good = p.line(i, 0) == line.term && p.line(i, 1) == line.set && p.line(i, 2) == line.rule
        && p.line(i, 3) == line.premises.size();
    mostPremises = Math.max(mostPremises, line.premises.size());
    for (int j = 0; j < line.premises.size(); j++) {
      good = good && p.line(i, 10 + j) == line.premises.get(j);
    }
    return good;
  }

  /** LINES that only the LINE in turn came to are PREMISES of none. */
  private static void noteCutShort(InclusionProver p) {
    if (p.count(5) > 1) {
      cutShort++;
    }
  }

  private static String differsApart(InclusionProver p, Oracle.Shape left, Oracle.Shape right, String want) {
    StringBuilder word = new StringBuilder();
    for (int i = 0; i < p.apart(0); i++) {
      word.append((char) ('a' - 1 + p.apart(1 + i)));
    }
    boolean good = word.toString().equals(want) && Oracle.hasWord(left, want) && !Oracle.hasWord(right, want);
    return good ? null : "apart " + word;
  }

  private static String expression(int family) {
    for (int i = 0; i < 100_000; i++) {
      String text = switch (family) {
        case 0, 1 -> sum(RANDOM.nextInt(7) + 2);
        default -> pieces();
      };
      if (text.length() <= 30 && text.length() >= 20) {
        return text;
      }
    }
    return "a";
  }

  /** Cycles of several lengths, all words beside them: there SEARCHES are long. */
  private static String cycles() {
    String[] lengths = {"aa", "aaa", "aaaaa", "aaaaaaa"};
    StringBuilder out = new StringBuilder("(a+1)*");
    for (String length : lengths) {
      if (RANDOM.nextInt(5) > 0 && out.length() + length.length() + 4 <= 30) {
        out.append("+(").append(length).append(")*");
      }
    }
    return out.toString();
  }

  private static String twoCycles() {
    String one = "a".repeat(RANDOM.nextInt(9) + 9);
    return "(" + one + "+" + "a".repeat(RANDOM.nextInt(6) + 2) + ")*";
  }

  private static String pieces() {
    String[] piece = {"(a+b)*", "(b+a)*", "a", "b", "(a+b)", "c*", "(a+c)*", "(a+1)", "(b+1)", "a*", "b*"};
    StringBuilder out = new StringBuilder();
    while (out.length() < 22) {
      out.append(piece[RANDOM.nextInt(piece.length)]);
    }
    return out.toString();
  }

  private static String sum(int depth) {
    StringBuilder out = new StringBuilder(product(depth));
    while (RANDOM.nextInt(5) < 2) {
      out.append("+").append(product(depth));
    }
    return out.toString();
  }

  private static String product(int depth) {
    StringBuilder out = new StringBuilder(factor(depth));
    while (RANDOM.nextInt(5) < 3) {
      out.append(factor(depth));
    }
    return out.toString();
  }

  private static String factor(int depth) {
    StringBuilder out = new StringBuilder();
    if (depth > 0 && RANDOM.nextInt(5) < 3) {
      out.append("(").append(sum(depth - 1)).append(")");
    } else {
      out.append("aaaabbbbaaabbc1".charAt(RANDOM.nextInt(15)));
    }
    while (RANDOM.nextInt(3) == 0) {
      out.append("*");
    }
    return out.toString();
  }
}
