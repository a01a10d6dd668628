import java.util.ArrayList;
import java.util.HashMap;
import java.util.LinkedHashMap;
import java.util.LinkedHashSet;
import java.util.List;
import java.util.Map;
import java.util.Set;

/**
 * The document a second time, as plainly as the Java library allows it: SHAPES are texts, PARTS are
 * taken by their very words, words are listed one by one. Tests compare the class with it.
 */
final class Oracle {
  static final int NONE = -1;

  /** A SHAPE: kind is '0', '1', a letter, '+', '.', or '*'; told is how it is SPELT. */
  record Shape(char kind, List<Shape> parts, String told) {
    boolean full() {
      return switch (kind) {
        case '1', '*' -> true;
        case '+' -> parts.stream().anyMatch(Shape::full);
        case '.' -> parts.stream().allMatch(Shape::full);
        default -> false;
      };
    }

    int shortest() {
      return switch (kind) {
        case '0' -> NONE;
        case '1', '*' -> 0;
        case '+' -> parts.stream().mapToInt(Shape::shortest).min().getAsInt();
        case '.' -> parts.stream().mapToInt(Shape::shortest).sum();
        default -> 1;
      };
    }

    int nest() {
      int most = parts.stream().mapToInt(Shape::nest).max().orElse(0);
      return kind == '*' ? most + 1 : most;
    }
  }

  static Shape atom(char c) {
    return new Shape(c, List.of(), String.valueOf(c));
  }

  static Shape sum(List<Shape> of) {
    Map<String, Shape> left = new LinkedHashMap<>();
    for (Shape s : of) {
      for (Shape p : s.kind == '+' ? s.parts : List.of(s)) {
        if (p.kind != '0') {
          left.putIfAbsent(p.told, p);
        }
      }
    }
    List<Shape> parts = new ArrayList<>(left.values());
    if (parts.isEmpty()) {
      return atom('0');
    }
    return parts.size() == 1 ? parts.get(0) : new Shape('+', parts, String.join("+", left.keySet()));
  }

  static Shape product(List<Shape> of) {
    List<Shape> parts = new ArrayList<>();
    for (Shape s : of) {
      if (s.kind == '0') {
        return s;
      }
      if (s.kind == '.') {
        parts.addAll(s.parts);
      } else if (s.kind != '1') {
        parts.add(s);
      }
    }
    if (parts.isEmpty()) {
      return atom('1');
    }
    if (parts.size() == 1) {
      return parts.get(0);
    }
    StringBuilder told = new StringBuilder();
    for (Shape p : parts) {
      told.append(p.kind == '+' ? "(" + p.told + ")" : p.told);
    }
    return new Shape('.', parts, told.toString());
  }

  static Shape star(Shape of) {
    if (of.kind == '0' || of.kind == '1') {
      return atom('1');
    }
    if (of.kind == '*') {
      return of;
    }
    boolean bracketed = of.kind == '+' || of.kind == '.';
    return new Shape('*', List.of(of), (bracketed ? "(" + of.told + ")" : of.told) + "*");
  }

  /** Only to be quick: what was told of a SHAPE once is told so again. */
  private static final Map<String, List<Shape>> KNOWN = new HashMap<>();

  static List<Shape> parts(Shape of, char x) {
    if (KNOWN.size() > 200_000) {
      KNOWN.clear();
    }
    String key = x + of.told;
    List<Shape> known = KNOWN.get(key);
    if (known == null) {
      known = findParts(of, x);
      KNOWN.put(key, known);
    }
    return known;
  }

  private static List<Shape> findParts(Shape of, char x) {
    Map<String, Shape> out = new LinkedHashMap<>();
    switch (of.kind) {
      case '0', '1' -> { }
      case '+' -> of.parts.forEach(p -> parts(p, x).forEach(q -> out.putIfAbsent(q.told, q)));
      case '.' -> {
        Shape first = of.parts.get(0);
        Shape others = product(of.parts.subList(1, of.parts.size()));
        for (Shape p : parts(first, x)) {
          Shape q = product(List.of(p, others));
          out.putIfAbsent(q.told, q);
        }
        if (first.full()) {
          parts(others, x).forEach(q -> out.putIfAbsent(q.told, q));
        }
      }
      case '*' -> {
        for (Shape p : parts(of.parts.get(0), x)) {
          Shape q = product(List.of(p, of));
          out.putIfAbsent(q.told, q);
        }
      }
      default -> {
        if (of.kind == x) {
          out.put("1", atom('1'));
        }
      }
    }
    return new ArrayList<>(out.values());
  }

  /** A text goes on, if the brackets and what was last allow its next byte. */
  static int faultOf(String text) {
    int open = 0;
    boolean behindAtom = false;
    for (int i = 0; i < text.length(); i++) {
      char c = text.charAt(i);
      if (c == ' ') {
        continue;
      }
      if ("01abc".indexOf(c) >= 0) {
        behindAtom = true;
      } else if (c == '(') {
        open++;
        behindAtom = false;
      } else if (c == ')' && behindAtom && open > 0) {
        open--;
      } else if (c == '+' && behindAtom) {
        behindAtom = false;
      } else if (c != '*' || !behindAtom) {
        return i;
      }
    }
    return behindAtom && open == 0 ? NONE : text.length();
  }

  /** The SHAPE of a text that has no FAULT. */
  static Shape read(String text) {
    String t = text.replace(" ", "");
    int depth = 0;
    List<Shape> summands = new ArrayList<>();
    int from = 0;
    for (int i = 0; i <= t.length(); i++) {
      char c = i < t.length() ? t.charAt(i) : '+';
      depth += c == '(' ? 1 : c == ')' ? -1 : 0;
      if (c == '+' && depth == 0) {
        summands.add(readProduct(t.substring(from, i)));
        from = i + 1;
      }
    }
    return sum(summands);
  }

  static Shape readProduct(String t) {
    List<Shape> factors = new ArrayList<>();
    int i = 0;
    while (i < t.length()) {
      Shape one;
      if (t.charAt(i) == '(') {
        int depth = 1;
        int end = i + 1;
        while (depth > 0) {
          depth += t.charAt(end) == '(' ? 1 : t.charAt(end) == ')' ? -1 : 0;
          end++;
        }
        one = read(t.substring(i + 1, end - 1));
        i = end;
      } else {
        one = atom(t.charAt(i));
        i++;
      }
      while (i < t.length() && t.charAt(i) == '*') {
        one = star(one);
        i++;
      }
      factors.add(one);
    }
    return product(factors);
  }

  static List<Shape> termsOf(Shape root) {
    List<Shape> terms = new ArrayList<>();
    Set<String> told = new LinkedHashSet<>();
    terms.add(root);
    told.add(root.told);
    for (int i = 0; i < terms.size(); i++) {
      for (char x = 'a'; x <= 'c'; x++) {
        for (Shape p : parts(terms.get(i), x)) {
          if (told.add(p.told)) {
            terms.add(p);
          }
        }
      }
    }
    return terms;
  }

  static int numberOf(List<Shape> terms, Shape s) {
    for (int i = 0; i < terms.size(); i++) {
      if (terms.get(i).told.equals(s.told)) {
        return i;
      }
    }
    return NONE;
  }

  static int setOf(List<Shape> terms, int term, char x) {
    int set = 0;
    for (Shape p : parts(terms.get(term), x)) {
      set |= 1 << numberOf(terms, p);
    }
    return set;
  }

  static int partsOfSet(List<Shape> terms, int set, char x) {
    int out = 0;
    for (int i = 0; i < terms.size(); i++) {
      if ((set >> i & 1) != 0) {
        out |= setOf(terms, i, x);
      }
    }
    return out;
  }

  static boolean anyFull(List<Shape> terms, int set) {
    for (int i = 0; i < terms.size(); i++) {
      if ((set >> i & 1) != 0 && terms.get(i).full()) {
        return true;
      }
    }
    return false;
  }

  /** By taking letters off a SHAPE's own words, not by TERMS' numbers. */
  static boolean hasWord(Shape of, String word) {
    List<Shape> now = List.of(of);
    for (char x : word.toCharArray()) {
      Map<String, Shape> next = new LinkedHashMap<>();
      now.forEach(s -> parts(s, x).forEach(p -> next.put(p.told, p)));
      now = new ArrayList<>(next.values());
    }
    return now.stream().anyMatch(Shape::full);
  }

  static final class Line {
    int term;
    int set;
    int rule = NONE;
    List<Integer> premises = new ArrayList<>();
    String word = "";

    Line(int term, int set, String word) {
      this.term = term;
      this.set = set;
      this.word = word;
    }

    Line copy() {
      Line c = new Line(term, set, word);
      c.rule = rule;
      c.premises = new ArrayList<>(premises);
      return c;
    }
  }

  static final class Found {
    int outcome;
    List<Line> lines = new ArrayList<>();
    String word;
  }

  static Found search(Shape left, Shape right) {
    List<Shape> ls = termsOf(left);
    List<Shape> rs = termsOf(right);
    Found f = new Found();
    f.lines.add(new Line(0, 1, ""));
    for (int i = 0; i < f.lines.size(); i++) {
      Line line = f.lines.get(i);
      int alike = numberOf(rs, ls.get(line.term));
      if (alike >= 0 && (line.set >> alike & 1) != 0) {
        line.rule = 0;
        continue;
      }
      if (ls.get(line.term).full() && !anyFull(rs, line.set)) {
        f.outcome = 1;
        f.word = line.word;
        return f;
      }
      for (char x = 'a'; x <= 'c'; x++) {
        int most = partsOfSet(rs, line.set, x);
        for (Shape p : parts(ls.get(line.term), x)) {
          int term = numberOf(ls, p);
          int at = NONE;
          for (int j = 0; j < f.lines.size() && at == NONE; j++) {
            if (f.lines.get(j).term == term && (f.lines.get(j).set | most) == most) {
              at = j;
            }
          }
          if (at == NONE) {
            if (f.lines.size() == 300) {
              line.premises.clear();
              f.outcome = 2;
              return f;
            }
            at = f.lines.size();
            f.lines.add(new Line(term, most, line.word + x));
          }
          line.premises.add(at);
        }
      }
      line.rule = 1;
    }
    return f;
  }

  /** {the BAD LINE, reason, letter, part}. */
  static int[] kernel(Shape left, Shape right, List<Line> lines) {
    List<Shape> ls = termsOf(left);
    List<Shape> rs = termsOf(right);
    if (lines.isEmpty()) {
      return new int[] {-2, 0, 0, 0};
    }
    for (int i = 0; i < lines.size(); i++) {
      int[] why = badness(lines.get(i), lines, ls, rs);
      if (why[0] != 0) {
        return new int[] {i, why[0], why[1], why[2]};
      }
    }
    Line first = lines.get(0);
    if (first.term != 0 || (first.set != 0 && first.set != 1)) {
      return new int[] {0, 6, NONE, NONE};
    }
    return new int[] {NONE, 0, 0, 0};
  }

  private static int[] badness(Line l, List<Line> lines, List<Shape> ls, List<Shape> rs) {
    boolean termIs = l.term >= 0 && l.term < ls.size();
    boolean setIs = l.set >= 0 && (long) l.set < 1L << rs.size();
    if (!termIs || !setIs || l.rule < 0 || l.rule > 1) {
      return new int[] {1, NONE, NONE};
    }
    if (l.rule == 0) {
      int alike = numberOf(rs, ls.get(l.term));
      boolean member = alike >= 0 && (l.set >> alike & 1) != 0;
      return new int[] {member ? 0 : 2, NONE, NONE};
    }
    if (ls.get(l.term).full() && !anyFull(rs, l.set)) {
      return new int[] {3, NONE, NONE};
    }
    for (int i = 0; i < l.premises.size(); i++) {
      if (l.premises.get(i) < 0 || l.premises.get(i) >= lines.size()) {
        return new int[] {4, NONE, i};
      }
    }
    for (char x = 'a'; x <= 'c'; x++) {
      int most = partsOfSet(rs, l.set, x);
      for (Shape p : parts(ls.get(l.term), x)) {
        int term = numberOf(ls, p);
        boolean there = l.premises.stream().map(lines::get)
            .anyMatch(q -> q.term == term && (q.set | most) == most);
        if (!there) {
          return new int[] {5, x - 'a' + 1, term};
        }
      }
    }
    return new int[] {0, NONE, NONE};
  }

  // ---- the face

  private String tape = "";
  private int fault = NONE;
  private Shape[] sides = {atom('0'), atom('0')};
  private Shape[] slots = {atom('0'), atom('0'), atom('0'), atom('0')};
  private List<Line> lines = new ArrayList<>();
  private int longest = 0;
  private String apart = null;
  private final Oracle[] images = new Oracle[2];

  private void become(Oracle o) {
    tape = o.tape;
    fault = o.fault;
    sides = o.sides.clone();
    slots = o.slots.clone();
    lines = new ArrayList<>();
    o.lines.forEach(l -> lines.add(l.copy()));
    longest = o.longest;
    apart = o.apart;
  }

  private void forgetLines() {
    lines = new ArrayList<>();
    longest = 0;
    apart = null;
  }

  int write(long w) {
    StringBuilder more = new StringBuilder();
    for (int i = 56; i >= 0 && (w >>> i & 255) != 0; i -= 8) {
      more.append((char) (w >>> i & 255));
    }
    if (tape.length() + more.length() > 60) {
      return NONE;
    }
    tape += more;
    return tape.length();
  }

  int side(int side) {
    String text = tape;
    tape = "";
    fault = NONE;
    if (side != 0 && side != 1) {
      return NONE;
    }
    fault = faultOf(text);
    if (text.length() > 30 && (fault == NONE || fault > 30)) {
      fault = 30;
    }
    return fault != NONE ? NONE : put(side, read(text));
  }

  private int put(int side, Shape s) {
    sides[side] = s;
    forgetLines();
    return termsOf(s).size();
  }

  int fault() {
    return fault;
  }

  void swap() {
    sides = new Shape[] {sides[1], sides[0]};
    forgetLines();
  }

  boolean keep(int side, int slot) {
    if (side < 0 || side > 1 || slot < 0 || slot > 3) {
      return false;
    }
    slots[slot] = sides[side];
    return true;
  }

  int make(int side, int what, int one, int other) {
    if (side < 0 || side > 1 || what < 0 || what > 3 || one < 0 || one > 3) {
      return NONE;
    }
    if ((what == 1 || what == 2) && (other < 0 || other > 3)) {
      return NONE;
    }
    Shape s = switch (what) {
      case 0 -> slots[one];
      case 1 -> sum(List.of(slots[one], slots[other]));
      case 2 -> product(List.of(slots[one], slots[other]));
      default -> star(slots[one]);
    };
    return s.told.length() > 30 ? NONE : put(side, s);
  }

  int shape(int side, int what) {
    if (side < 0 || side > 1) {
      return NONE;
    }
    Shape s = sides[side];
    return switch (what) {
      case 0 -> termsOf(s).size();
      case 1 -> s.full() ? 1 : 0;
      case 2 -> s.told.length();
      case 3 -> (int) s.told.chars().filter(c -> c >= 'a').count();
      case 4 -> (int) s.told.chars().filter(c -> c == '*').count();
      case 5 -> s.kind == '0' ? 1 : 0;
      case 6 -> s.told.indexOf('*') < 0 ? 1 : 0;
      case 7 -> s.shortest();
      case 8 -> s.nest();
      default -> what >= 10 && what - 10 < s.told.length() ? s.told.charAt(what - 10) : NONE;
    };
  }

  int term(int side, int term, int what) {
    if (side < 0 || side > 1) {
      return NONE;
    }
    List<Shape> terms = termsOf(sides[side]);
    if (term < 0 || term >= terms.size()) {
      return NONE;
    }
    Shape s = terms.get(term);
    return switch (what) {
      case 0 -> s.full() ? 1 : 0;
      case 1 -> s.told.length();
      case 2, 3, 4 -> setOf(terms, term, (char) ('a' + what - 2));
      default -> what >= 10 && what - 10 < s.told.length() ? s.told.charAt(what - 10) : NONE;
    };
  }

  int like(int side, int term) {
    if (side < 0 || side > 1) {
      return NONE;
    }
    List<Shape> others = termsOf(sides[1 - side]);
    return term < 0 || term >= others.size() ? NONE : numberOf(termsOf(sides[side]), others.get(term));
  }

  boolean has(int side) {
    String word = tape;
    tape = "";
    return (side == 0 || side == 1) && word.matches("[abc]{0,30}") && hasWord(sides[side], word);
  }

  private List<Integer> listed(int which, int n) {
    List<Integer> out = new ArrayList<>();
    int all = 1;
    for (int i = 0; i < n; i++) {
      all *= 3;
    }
    for (int i = 0; i < all; i++) {
      StringBuilder word = new StringBuilder();
      int told = 0;
      for (int rest = i, j = 0; j < n; j++, rest /= 3) {
        word.insert(0, (char) ('a' + rest % 3));
      }
      for (char c : word.toString().toCharArray()) {
        told = told * 4 + c - 'a' + 1;
      }
      boolean l = hasWord(sides[0], word.toString());
      boolean r = hasWord(sides[1], word.toString());
      boolean fits = switch (which) {
        case 0 -> l;
        case 1 -> r;
        case 2 -> l && r;
        case 3 -> l && !r;
        case 4 -> !l && r;
        default -> !l && !r;
      };
      if (fits) {
        out.add(told);
      }
    }
    return out;
  }

  int words(int which, int n) {
    return which < 0 || which > 5 || n < 0 || n > 8 ? NONE : listed(which, n).size();
  }

  int word(int which, int n, int k) {
    if (which < 0 || which > 5 || n < 0 || n > 8) {
      return NONE;
    }
    List<Integer> all = listed(which, n);
    return k < 0 || k >= all.size() ? NONE : all.get(k);
  }

  int prove() {
    Found f = search(sides[0], sides[1]);
    lines = f.lines;
    apart = f.word;
    longest = lines.stream().mapToInt(l -> l.word.length()).max().orElse(0);
    return f.outcome;
  }

  int apart(int what) {
    if (apart == null || what < 0 || what > apart.length()) {
      return NONE;
    }
    return what == 0 ? apart.length() : apart.charAt(what - 1) - 'a' + 1;
  }

  int count(int what) {
    return switch (what) {
      case 0 -> lines.size();
      case 1 -> (int) lines.stream().filter(l -> l.rule == 0).count();
      case 2 -> (int) lines.stream().filter(l -> l.rule == 1).count();
      case 3 -> lines.stream().mapToInt(l -> l.premises.size()).sum();
      case 4 -> longest;
      case 5 -> {
        int n = 0;
        for (int i = 0; i < lines.size(); i++) {
          int at = i;
          n += lines.stream().noneMatch(l -> l.premises.contains(at)) ? 1 : 0;
        }
        yield n;
      }
      case 6 -> tape.length();
      default -> NONE;
    };
  }

  int line(int line, int what) {
    if (line < 0 || line >= lines.size()) {
      return -2;
    }
    Line l = lines.get(line);
    return switch (what) {
      case 0 -> l.term;
      case 1 -> l.set;
      case 2 -> l.rule;
      case 3 -> l.premises.size();
      default -> what >= 10 && what - 10 < l.premises.size() ? l.premises.get(what - 10) : -2;
    };
  }

  int alter(int line, int what, int v) {
    int was = what == 3 ? -2 : line(line, what);
    boolean there = line >= 0 && line < lines.size() && what >= 0
        && (what < 3 || (what >= 10 && what - 10 < lines.get(line).premises.size()));
    if (!there) {
      return -2;
    }
    Line l = lines.get(line);
    switch (what) {
      case 0 -> l.term = v;
      case 1 -> l.set = v;
      case 2 -> l.rule = v;
      default -> l.premises.set(what - 10, v);
    }
    return was;
  }

  int cut() {
    if (lines.isEmpty()) {
      return NONE;
    }
    lines.remove(lines.size() - 1);
    return lines.size();
  }

  int check() {
    return kernel(sides[0], sides[1], lines)[0];
  }

  int why(int what) {
    return what < 0 || what > 2 ? NONE : kernel(sides[0], sides[1], lines)[what + 1];
  }

  int same() {
    int a = search(sides[0], sides[1]).outcome;
    int b = search(sides[1], sides[0]).outcome;
    return a == 1 || b == 1 ? 0 : a == 2 || b == 2 ? 2 : 1;
  }

  int between(int one, int other) {
    if (one < 0 || one > 3 || other < 0 || other > 3) {
      return NONE;
    }
    return search(slots[one], slots[other]).outcome;
  }

  boolean image(int k) {
    if (k != 0 && k != 1) {
      return false;
    }
    images[k] = new Oracle();
    images[k].become(this);
    return true;
  }

  boolean again(int k) {
    if ((k != 0 && k != 1) || images[k] == null) {
      return false;
    }
    become(images[k]);
    return true;
  }
}
