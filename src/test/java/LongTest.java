import java.util.List;
import java.util.Random;

/** EXPRESSIONS of nearly 30 bytes: their TERMS, and whole SEARCHES, line by line as the Oracle's. */
public final class LongTest extends Calls {
  private static final int ROUNDS = 1500;
  private static final Random RANDOM = new Random(30);
  private static final int[] OUTCOMES = new int[3];
  private static int longestTerm = 0;
  private static int mostTerms = 0;
  private static int mostPremises = 0;
  private static int cutShort = 0;

  private final String left;
  private final String right;
  private final List<Oracle.Shape> leftTerms;
  private final List<Oracle.Shape> rightTerms;
  private Prover prover;
  private boolean proved = false;

  private LongTest(String left, String right) {
    this.left = left;
    this.right = right;
    leftTerms = Oracle.termsOf(Oracle.read(left));
    rightTerms = Oracle.termsOf(Oracle.read(right));
    prover = of(left, right);
  }

  public static void main(String[] args) {
    for (int i = 0; i < ROUNDS; i++) {
      String left = i % 10 == 0 ? twoCycles() : expression(i % 3);
      String right = i % 10 == 0 ? cycles() : i % 7 == 0 ? left : expression(i / 4 % 3);
      says(left + " in " + right);
      LongTest test = new LongTest(left, right);
      test.terms(0, test.leftTerms);
      test.terms(1, test.rightTerms);
      test.search();
    }
    System.out.println("proved " + OUTCOMES[0] + ", separated " + OUTCOMES[1] + ", given up " + OUTCOMES[2]
        + " (" + cutShort + " with lines of the line in turn); longest term " + longestTerm
        + ", most terms " + mostTerms + ", most premises " + mostPremises);
    due("each kind of outcome came",
        OUTCOMES[0] > 0 && OUTCOMES[1] > 0 && OUTCOMES[2] > 0 && cutShort > 0, true);
    end();
  }

  /** An object that is as far and has room for so many calls more. */
  private Prover ready(int calls) {
    if (prover.calls() + calls > Prover.PROMISED) {
      prover = of(left, right);
      if (proved) {
        prover.prove();
      }
    }
    return prover;
  }

  private void terms(int side, List<Oracle.Shape> terms) {
    mostTerms = Math.max(mostTerms, terms.size());
    due("TERMS of side " + side, ready(1).shape(side, 0), terms.size());
    for (int i = 0; i < terms.size(); i++) {
      String told = terms.get(i).told();
      longestTerm = Math.max(longestTerm, told.length());
      Prover x = ready(told.length() + 6);
      due("TERM " + i, termSpelt(x, side, i), told);
      due("FULL", x.term(side, i, 0), terms.get(i).full() ? 1 : 0);
      for (int letter = 0; letter < 3; letter++) {
        due("PARTS of TERM " + i, x.term(side, i, 2 + letter), Oracle.setOf(terms, i, (char) ('a' + letter)));
      }
    }
  }

  private void search() {
    Oracle.Found found = Oracle.search(leftTerms.get(0), rightTerms.get(0));
    int outcome = ready(1).prove();
    proved = true;
    OUTCOMES[found.outcome]++;
    due("prove", outcome, found.outcome);
    due("LINES", ready(1).count(0), found.lines.size());
    for (int i = 0; i < found.lines.size(); i++) {
      Oracle.Line line = found.lines.get(i);
      StringBuilder want = new StringBuilder(line.term + " " + line.set + " " + line.rule);
      line.premises.forEach(premise -> want.append(' ').append(premise));
      mostPremises = Math.max(mostPremises, line.premises.size());
      due("LINE " + i, lineOf(ready(line.premises.size() + 4), i), want.toString());
    }
    // LINES that only the LINE in turn came to are PREMISES of none
    if (found.outcome == 2 && ready(1).count(5) > 1) {
      cutShort++;
    }
    due("check", ready(1).check(), Oracle.kernel(leftTerms.get(0), rightTerms.get(0), found.lines)[0]);
    due("check of what is proved", outcome != 0 || ready(1).check() == -1, true);
    if (outcome == 1) {
      separatedBy(found.word);
    }
  }

  private void separatedBy(String word) {
    due("apart", apartOf(ready(word.length() + 1)), word.length() + " " + word);
    due("it is LEFT's alone", Oracle.hasWord(leftTerms.get(0), word) && !Oracle.hasWord(rightTerms.get(0), word),
        true);
  }

  private static String expression(int family) {
    for (int i = 0; i < 100_000; i++) {
      String text = switch (family) {
        case 0, 1 -> sum(RANDOM.nextInt(7) + 2);
        default -> pieces();
      };
      if (text.length() <= 30 && text.length() >= 20) {
        return text;
      }
    }
    return "a";
  }

  /** Cycles of several lengths, all words beside them: there SEARCHES are long. */
  private static String cycles() {
    String[] lengths = {"aa", "aaa", "aaaaa", "aaaaaaa"};
    StringBuilder out = new StringBuilder("(a+1)*");
    for (String length : lengths) {
      if (RANDOM.nextInt(5) > 0 && out.length() + length.length() + 4 <= 30) {
        out.append("+(").append(length).append(")*");
      }
    }
    return out.toString();
  }

  private static String twoCycles() {
    String one = "a".repeat(RANDOM.nextInt(9) + 9);
    return "(" + one + "+" + "a".repeat(RANDOM.nextInt(6) + 2) + ")*";
  }

  private static String pieces() {
    String[] piece = {"(a+b)*", "(b+a)*", "a", "b", "(a+b)", "c*", "(a+c)*", "(a+1)", "(b+1)", "a*", "b*"};
    StringBuilder out = new StringBuilder();
    while (out.length() < 22) {
      out.append(piece[RANDOM.nextInt(piece.length)]);
    }
    return out.toString();
  }

  private static String sum(int depth) {
    StringBuilder out = new StringBuilder(product(depth));
    while (RANDOM.nextInt(5) < 2) {
      out.append("+").append(product(depth));
    }
    return out.toString();
  }

  private static String product(int depth) {
    StringBuilder out = new StringBuilder(factor(depth));
    while (RANDOM.nextInt(5) < 3) {
      out.append(factor(depth));
    }
    return out.toString();
  }

  private static String factor(int depth) {
    StringBuilder out = new StringBuilder();
    if (depth > 0 && RANDOM.nextInt(5) < 3) {
      out.append("(").append(sum(depth - 1)).append(")");
    } else {
      out.append("aaaabbbbaaabbc1".charAt(RANDOM.nextInt(15)));
    }
    while (RANDOM.nextInt(3) == 0) {
      out.append("*");
    }
    return out.toString();
  }
}
