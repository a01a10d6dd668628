import java.util.Arrays;

/**
 * Inclusions of expressions over the letters a, b, c: their shapes and terms, proofs that all words
 * of the left side are words of the right one, and a kernel that checks such proofs.
 */
public final class InclusionProver {
  public static final int NONE = -1;

  private static final int NO_SUCH = -2;
  private static final int SIDES = 2;
  private static final int LEFT = 0;
  private static final int RIGHT = 1;
  private static final int SLOTS = 4;
  private static final int IMAGES = 2;
  private static final int LETTERS = 3;
  private static final int FIRST_LETTER = 'a';
  private static final int TAPE_BYTES = 60;
  private static final int MOST_BYTES = 30;
  private static final int MOST_TERMS = 31;
  private static final int MOST_LINES = 300;
  private static final int LONGEST_COUNTED = 8;
  private static final int KINDS_OF_WORDS = 6;
  /** From this 'what' on, a call asks for the entries of a row. */
  private static final int ROW = 10;
  /** Two kept texts of 30 bytes each, with brackets and signs of their own. */
  private static final int MADE_BYTES = 2 * MOST_BYTES + 8;
  /** Trees and brackets of so short texts never go as deep. */
  private static final int DEEPEST = 40;

  private static final int PROVED = 0;
  private static final int SEPARATED = 1;
  private static final int GIVEN_UP = 2;
  private static final int MEMBER = 0;
  private static final int STEP = 1;

  private final Reader reader;
  private final TermFinder finder;
  private final Search search;
  private final Kernel kernel;
  private final WordCounter counter;
  private final Text draft;
  private final Side[] trialSides;
  private final Lines trialLines;
  private final Room now;
  /** Made with the object, so that no call makes rows; isImage tells which of them hold something. */
  private final Room[] images;
  private final boolean[] isImage;

  public InclusionProver() {
    Tree tree = new Tree();
    draft = new Text(MADE_BYTES);
    reader = new Reader(tree, draft);
    finder = new TermFinder(tree);
    trialSides = new Side[] {new Side(), new Side()};
    trialLines = new Lines();
    search = new Search(trialSides[LEFT], trialSides[RIGHT], trialLines);
    kernel = new Kernel(trialSides[LEFT], trialSides[RIGHT], trialLines);
    counter = new WordCounter(trialSides[LEFT], trialSides[RIGHT]);
    now = new Room();
    images = new Room[] {new Room(), new Room()};
    isImage = new boolean[IMAGES];
    for (int i = 0; i < SIDES; i++) {
      finder.findTerms(Tree.ZERO, now.sides[i]);
    }
    for (int i = 0; i < SLOTS; i++) {
      now.slots[i].become(now.sides[LEFT].spelt);
    }
  }

  public int write(long w) {
    int more = bytesOf(w);
    Text tape = now.tape;
    if (tape.size + more > TAPE_BYTES) {
      return NONE;
    }
    for (int i = 0; i < more; i++) {
      tape.add(byteOf(w, i));
    }
    return tape.size;
  }

  public int side(int side) {
    Text tape = now.tape;
    int given = tape.size;
    int root = Tree.ZERO;
    now.fault = NONE;
    if (isSide(side)) {
      root = reader.read(tape, Math.min(given, MOST_BYTES));
      now.fault = faultOf(root, given);
    }
    tape.clear();
    if (!isSide(side) || now.fault != NONE) {
      return NONE;
    }
    return put(side, root);
  }

  public int fault() {
    return now.fault;
  }

  public void swap() {
    Side left = now.sides[LEFT];
    now.sides[LEFT] = now.sides[RIGHT];
    now.sides[RIGHT] = left;
    now.lines.clear();
  }

  public boolean keep(int side, int slot) {
    if (!isSide(side) || !isSlot(slot)) {
      return false;
    }
    now.slots[slot].become(now.sides[side].spelt);
    return true;
  }

  public int make(int side, int what, int one, int other) {
    boolean ofBoth = what == 1 || what == 2;
    if (!isSide(side) || what < 0 || what > 3 || !isSlot(one) || (ofBoth && !isSlot(other))) {
      return NONE;
    }
    draftOf(what, now.slots[one], now.slots[ofBoth ? other : one]);
    int root = reader.read(draft, draft.size);
    if (root == NONE || finder.speltBytes(root) > MOST_BYTES) {
      return NONE;
    }
    return put(side, root);
  }

  // ---- what there is

  public int shape(int side, int what) {
    if (!isSide(side)) {
      return NONE;
    }
    Side of = now.sides[side];
    switch (what) {
      case 0: return of.terms;
      case 1: return of.anyFull(1) ? 1 : 0;
      case 2: return of.spelt.size;
      case 3: return of.lettersSpelt();
      case 4: return of.spelt.countOf('*');
      case 5: return of.shortest == NONE ? 1 : 0;
      case 6: return of.nest == 0 ? 1 : 0;
      case 7: return of.shortest;
      case 8: return of.nest;
      default: return what < ROW ? NONE : of.spelt.at(what - ROW);
    }
  }

  public int term(int side, int term, int what) {
    if (!isSide(side) || !now.sides[side].isTerm(term)) {
      return NONE;
    }
    Side of = now.sides[side];
    switch (what) {
      case 0: return of.anyFull(1 << term) ? 1 : 0;
      case 1: return of.termBytes(term);
      case 2:
      case 3:
      case 4: return of.partSet(term, what - 2);
      default: return what < ROW ? NONE : of.termByte(term, what - ROW);
    }
  }

  public int like(int side, int term) {
    if (!isSide(side)) {
      return NONE;
    }
    return now.sides[side].alikeTerm(now.sides[1 - side], term);
  }

  public boolean has(int side) {
    boolean found = isSide(side) && tapeIsWordOf(now.sides[side]);
    now.tape.clear();
    return found;
  }

  public int words(int which, int n) {
    if (!canCount(which, n)) {
      return NONE;
    }
    return counter.howMany(now.sides[LEFT], now.sides[RIGHT], which, n);
  }

  public int word(int which, int n, int k) {
    if (!canCount(which, n) || k < 0) {
      return NONE;
    }
    return counter.nth(now.sides[LEFT], now.sides[RIGHT], which, n, k);
  }

  // ---- proofs

  public int prove() {
    return search.run(now.sides[LEFT], now.sides[RIGHT], now.lines);
  }

  public int apart(int what) {
    Lines lines = now.lines;
    if (!lines.separated || what < 0) {
      return NONE;
    }
    return what == 0 ? lines.apartWord.size : lines.apartWord.at(what - 1);
  }

  public int count(int what) {
    Lines lines = now.lines;
    switch (what) {
      case 0: return lines.size;
      case 1: return lines.ofRule(MEMBER);
      case 2: return lines.ofRule(STEP);
      case 3: return lines.premises;
      case 4: return lines.longest;
      case 5: return lines.premisesOfNone();
      case 6: return now.tape.size;
      default: return NONE;
    }
  }

  public int line(int line, int what) {
    Lines lines = now.lines;
    if (!lines.isLine(line)) {
      return NO_SUCH;
    }
    switch (what) {
      case 0: return lines.goal[line];
      case 1: return lines.set[line];
      case 2: return lines.rule[line];
      case 3: return lines.number[line];
      default: return lines.isPremise(line, what) ? lines.premiseOf(line, what - ROW) : NO_SUCH;
    }
  }

  public int alter(int line, int what, int v) {
    Lines lines = now.lines;
    if (!lines.isLine(line)) {
      return NO_SUCH;
    }
    switch (what) {
      case 0: return replace(lines.goal, line, v);
      case 1: return replace(lines.set, line, v);
      case 2: return replace(lines.rule, line, v);
      default:
        return lines.isPremise(line, what)
            ? replace(lines.premise, lines.from[line] + what - ROW, v)
            : NO_SUCH;
    }
  }

  public int cut() {
    return now.lines.dropLast();
  }

  public int check() {
    kernel.look(now.sides[LEFT], now.sides[RIGHT], now.lines);
    return kernel.bad;
  }

  public int why(int what) {
    if (what < 0 || what > 2) {
      return NONE;
    }
    kernel.look(now.sides[LEFT], now.sides[RIGHT], now.lines);
    if (kernel.bad < 0) {
      return 0;
    }
    return what == 0 ? kernel.reason : what == 1 ? kernel.letter : kernel.detail;
  }

  public int same() {
    int there = search.run(now.sides[LEFT], now.sides[RIGHT], trialLines);
    int back = search.run(now.sides[RIGHT], now.sides[LEFT], trialLines);
    if (there == SEPARATED || back == SEPARATED) {
      return 0;
    }
    return there == GIVEN_UP || back == GIVEN_UP ? 2 : 1;
  }

  public int between(int one, int other) {
    if (!isSlot(one) || !isSlot(other)) {
      return NONE;
    }
    finder.findTerms(readSlot(one), trialSides[LEFT]);
    finder.findTerms(readSlot(other), trialSides[RIGHT]);
    return search.run(trialSides[LEFT], trialSides[RIGHT], trialLines);
  }

  public boolean image(int k) {
    if (k < 0 || k >= IMAGES) {
      return false;
    }
    images[k].become(now);
    isImage[k] = true;
    return true;
  }

  public boolean again(int k) {
    if (k < 0 || k >= IMAGES || !isImage[k]) {
      return false;
    }
    now.become(images[k]);
    return true;
  }

  private static boolean isSide(int side) {
    return side >= 0 && side < SIDES;
  }

  private static boolean isSlot(int slot) {
    return slot >= 0 && slot < SLOTS;
  }

  private static boolean canCount(int which, int n) {
    return which >= 0 && which < KINDS_OF_WORDS && n >= 0 && n <= LONGEST_COUNTED;
  }

  private static int byteOf(long w, int i) {
    return (int) (w >>> (56 - 8 * i)) & 255;
  }

  private static int bytesOf(long w) {
    int n = 0;
    while (n < 8 && byteOf(w, n) != 0) {
      n++;
    }
    return n;
  }

  private static int replace(int[] row, int i, int v) {
    if (i < 0 || i >= row.length) {
      return NO_SUCH;
    }
    int was = row[i];
    row[i] = v;
    return was;
  }

  private int faultOf(int root, int given) {
    if (root == NONE) {
      return reader.fault;
    }
    return given > MOST_BYTES ? MOST_BYTES : NONE;
  }

  private int put(int side, int root) {
    finder.findTerms(root, now.sides[side]);
    now.lines.clear();
    return now.sides[side].terms;
  }

  /** A kept text always reads well; the test is for a fault of this class alone. */
  private int readSlot(int slot) {
    Text text = now.slots[slot];
    int root = reader.read(text, text.size);
    return root == NONE ? Tree.ZERO : root;
  }

  private void draftOf(int what, Text one, Text other) {
    draft.clear();
    switch (what) {
      case 1:
        draft.addAll(one);
        draft.add('+');
        draft.addAll(other);
        break;
      case 2:
        draft.addBracketed(one);
        draft.addBracketed(other);
        break;
      case 3:
        draft.addBracketed(one);
        draft.add('*');
        break;
      default:
        draft.addAll(one);
        break;
    }
  }

  private boolean tapeIsWordOf(Side side) {
    Text tape = now.tape;
    if (tape.size > MOST_BYTES) {
      return false;
    }
    int set = 1;
    for (int i = 0; i < tape.size; i++) {
      int letter = tape.at(i) - FIRST_LETTER;
      if (letter < 0 || letter >= LETTERS) {
        return false;
      }
      set = side.partsOfSet(set, letter);
    }
    return side.anyFull(set);
  }

  /** Bytes behind one another, in a row that is made once. */
  private static final class Text {
    private final int[] sign;
    int size;

    Text(int room) {
      sign = new int[Math.max(room, 0)];
    }

    void clear() {
      size = 0;
    }

    void add(int b) {
      if (size < sign.length) {
        sign[size] = b;
        size++;
      }
    }

    void addAll(Text other) {
      int n = Math.min(other.size, sign.length - size);
      System.arraycopy(other.sign, 0, sign, size, n);
      size += n;
    }

    void addBracketed(Text other) {
      add('(');
      addAll(other);
      add(')');
    }

    void become(Text other) {
      clear();
      addAll(other);
    }

    void setAt(int i, int b) {
      if (i >= 0 && i < size) {
        sign[i] = b;
      }
    }

    int at(int i) {
      return i >= 0 && i < size ? sign[i] : NONE;
    }

    int countOf(int b) {
      int n = 0;
      for (int i = 0; i < size; i++) {
        if (sign[i] == b) {
          n++;
        }
      }
      return n;
    }
  }

  /** SHAPES as nodes; two that are LIKE are the same node, so numbers tell likeness. */
  private static final class Tree {
    static final int ZERO = 0;
    static final int ONE = 1;
    static final int LETTER_A = 2;
    private static final int ATOMS = LETTER_A + LETTERS;
    static final int ATOM = 0;
    static final int SUM = 1;
    static final int PRODUCT = 2;
    static final int STAR = 3;
    static final int ALONE = 0;
    static final int IN_PRODUCT = 1;
    static final int UNDER_STAR = 2;
    private static final int NODE_ROOM = 160;
    private static final int CHILD_ROOM = 2048;

    private final int[] kind = new int[NODE_ROOM];
    private final int[] from = new int[NODE_ROOM];
    private final int[] number = new int[NODE_ROOM];
    private final int[] shortest = new int[NODE_ROOM];
    private final int[] nest = new int[NODE_ROOM];
    private final int[] child = new int[CHILD_ROOM];
    private final int[] open = new int[2 * MADE_BYTES];
    private int nodes;
    private int children;
    private int top;

    Tree() {
      shortest[ZERO] = NONE;
      shortest[ONE] = 0;
      for (int i = LETTER_A; i < ATOMS; i++) {
        shortest[i] = 1;
      }
      nodes = ATOMS;
    }

    void clear() {
      nodes = ATOMS;
      children = 0;
      top = 0;
    }

    int kindOf(int node) {
      return node >= 0 && node < nodes ? kind[node] : ATOM;
    }

    int childrenOf(int node) {
      return node >= 0 && node < nodes ? number[node] : 0;
    }

    int childOf(int node, int i) {
      boolean there = node >= 0 && node < nodes && i >= 0 && i < number[node];
      return there ? child[from[node] + i] : ZERO;
    }

    int shortestOf(int node) {
      return node >= 0 && node < nodes ? shortest[node] : NONE;
    }

    int nestOf(int node) {
      return node >= 0 && node < nodes ? nest[node] : 0;
    }

    boolean isFull(int node) {
      return shortestOf(node) == 0;
    }

    /** Summands or factors that come now are those of one shape, up to its close. */
    int mark() {
      return top;
    }

    void addSummand(int mark, int node) {
      if (kindOf(node) == SUM) {
        for (int i = 0; i < childrenOf(node); i++) {
          addOnce(mark, childOf(node, i));
        }
      } else if (node != ZERO) {
        addOnce(mark, node);
      }
    }

    void addFactor(int node) {
      if (kindOf(node) == PRODUCT) {
        for (int i = 0; i < childrenOf(node); i++) {
          push(childOf(node, i));
        }
      } else if (node != ONE) {
        push(node);
      }
    }

    int closeSum(int mark) {
      return close(SUM, mark, ZERO);
    }

    int closeProduct(int mark) {
      for (int i = mark; i < top; i++) {
        if (open[i] == ZERO) {
          top = mark;
          return ZERO;
        }
      }
      return close(PRODUCT, mark, ONE);
    }

    int starOf(int node) {
      if (node == ZERO || node == ONE) {
        return ONE;
      }
      if (kindOf(node) == STAR) {
        return node;
      }
      int mark = top;
      push(node);
      int star = nodeOf(STAR, mark);
      top = mark;
      return star;
    }

    void spell(int node, int place, Text out) {
      spellNode(node, place, out, 0);
    }

    private void spellNode(int node, int place, Text out, int depth) {
      if (depth > DEEPEST) {
        return;
      }
      int of = kindOf(node);
      if (of == ATOM) {
        out.add(node < LETTER_A ? '0' + node : FIRST_LETTER + node - LETTER_A);
      } else if (of == STAR) {
        spellNode(childOf(node, 0), UNDER_STAR, out, depth + 1);
        out.add('*');
      } else {
        boolean bracketed = place == UNDER_STAR || (of == SUM && place == IN_PRODUCT);
        if (bracketed) {
          out.add('(');
        }
        spellChildren(node, of, out, depth);
        if (bracketed) {
          out.add(')');
        }
      }
    }

    private void spellChildren(int node, int of, Text out, int depth) {
      for (int i = 0; i < childrenOf(node); i++) {
        if (of == SUM && i > 0) {
          out.add('+');
        }
        spellNode(childOf(node, i), of == SUM ? ALONE : IN_PRODUCT, out, depth + 1);
      }
    }

    private void push(int node) {
      if (top < open.length) {
        open[top] = node;
        top++;
      }
    }

    private void addOnce(int mark, int node) {
      for (int i = mark; i < top; i++) {
        if (open[i] == node) {
          return;
        }
      }
      push(node);
    }

    private int close(int of, int mark, int ifNone) {
      int n = top - mark;
      int node = n == 0 ? ifNone : n == 1 ? open[mark] : nodeOf(of, mark);
      top = mark;
      return node;
    }

    private int nodeOf(int of, int mark) {
      for (int i = ATOMS; i < nodes; i++) {
        if (kind[i] == of && hasChildren(i, mark)) {
          return i;
        }
      }
      return newNode(of, mark);
    }

    private boolean hasChildren(int node, int mark) {
      if (number[node] != top - mark) {
        return false;
      }
      for (int i = 0; i < number[node]; i++) {
        if (child[from[node] + i] != open[mark + i]) {
          return false;
        }
      }
      return true;
    }

    /** No child is 0: so the shortest word of a SUM is the least, of a PRODUCT the total. */
    private int newNode(int of, int mark) {
      int n = top - mark;
      if (nodes >= NODE_ROOM || children + n > CHILD_ROOM) {
        return ZERO;
      }
      int least = MADE_BYTES;
      int total = 0;
      int deepest = 0;
      for (int i = mark; i < top; i++) {
        int part = open[i];
        child[children + i - mark] = part;
        least = Math.min(least, shortest[part]);
        total += shortest[part];
        deepest = Math.max(deepest, nest[part]);
      }
      int node = nodes;
      kind[node] = of;
      from[node] = children;
      number[node] = n;
      shortest[node] = of == STAR ? 0 : of == SUM ? least : total;
      nest[node] = of == STAR ? deepest + 1 : deepest;
      children += n;
      nodes++;
      return node;
    }
  }

  /** Reads a text as an EXPRESSION, its SHAPE at once, or tells its FAULT. */
  private static final class Reader {
    private final Tree tree;
    private Text text;
    private int limit;
    private int place;
    int fault = NONE;

    Reader(Tree tree, Text text) {
      this.tree = tree;
      this.text = text;
    }

    /** The node of what the first bytes of a text mean; NONE: fault tells where none goes on. */
    int read(Text from, int bytes) {
      text = from;
      limit = bytes;
      place = 0;
      fault = NONE;
      tree.clear();
      int root = readSum(0);
      if (fault == NONE && next() != NONE) {
        fault = place;
      }
      return fault == NONE ? root : NONE;
    }

    private int readSum(int depth) {
      int mark = tree.mark();
      boolean more = true;
      for (int i = 0; more && i <= limit; i++) {
        tree.addSummand(mark, readProduct(depth));
        more = fault == NONE && next() == '+';
        if (more) {
          place++;
        }
      }
      return tree.closeSum(mark);
    }

    private int readProduct(int depth) {
      int mark = tree.mark();
      boolean more = true;
      for (int i = 0; more && i <= limit; i++) {
        tree.addFactor(readFactor(depth));
        more = fault == NONE && beginsAtom(next());
      }
      return tree.closeProduct(mark);
    }

    private int readFactor(int depth) {
      int node = readAtom(depth);
      for (int i = 0; i <= limit && fault == NONE && next() == '*'; i++) {
        place++;
        node = tree.starOf(node);
      }
      return node;
    }

    private int readAtom(int depth) {
      int sign = next();
      if (!beginsAtom(sign) || depth > DEEPEST) {
        fault = place;
        return Tree.ZERO;
      }
      place++;
      if (sign != '(') {
        return sign < FIRST_LETTER ? Tree.ZERO + sign - '0' : Tree.LETTER_A + sign - FIRST_LETTER;
      }
      int node = readSum(depth + 1);
      if (fault == NONE) {
        if (next() == ')') {
          place++;
        } else {
          fault = place;
        }
      }
      return node;
    }

    /** The next byte that is no blank; NONE at the end. */
    private int next() {
      while (place < limit && text.at(place) == ' ') {
        place++;
      }
      return place < limit ? text.at(place) : NONE;
    }

    private static boolean beginsAtom(int sign) {
      return sign == '0' || sign == '1' || sign == '(' || (sign >= 'a' && sign <= 'c');
    }
  }

  /**
   * Finds the TERMS of a SHAPE. Every TERM is a row of FACTORS that are nodes of the one tree
   * (what stands behind a letter in it), so no new nodes are needed for PARTS.
   */
  private static final class TermFinder {
    private static final int FACTOR_ROOM = 64;
    private static final int BEHIND_ROOM = 192;

    private final Tree tree;
    private final int[] factor = new int[MOST_TERMS * FACTOR_ROOM];
    private final int[] number = new int[MOST_TERMS];
    /** The FACTORS behind the one that is looked at, the nearest on top. */
    private final int[] behind = new int[BEHIND_ROOM];
    private final Text measure = new Text(MADE_BYTES);
    private int top;
    private int terms;
    private int wanted;

    TermFinder(Tree tree) {
      this.tree = tree;
    }

    int speltBytes(int root) {
      measure.clear();
      tree.spell(root, Tree.ALONE, measure);
      return measure.size;
    }

    void findTerms(int root, Side side) {
      side.clear();
      tree.spell(root, Tree.ALONE, side.spelt);
      side.shortest = tree.shortestOf(root);
      side.nest = tree.nestOf(root);
      terms = 0;
      top = 0;
      pushFactors(root);
      numberOfTerm();
      for (int term = 0; term < MOST_TERMS && term < terms; term++) {
        tellTerm(term, side);
        for (int letter = 0; letter < LETTERS; letter++) {
          findParts(term, letter, side);
        }
        side.closeTerm();
      }
    }

    private void tellTerm(int term, Side side) {
      int n = number[term];
      boolean full = true;
      if (n == 0) {
        tree.spell(Tree.ONE, Tree.ALONE, side.termSigns);
      }
      for (int i = 0; i < n; i++) {
        int node = factor[term * FACTOR_ROOM + i];
        full = full && tree.isFull(node);
        tree.spell(node, n == 1 ? Tree.ALONE : Tree.IN_PRODUCT, side.termSigns);
      }
      side.openTerm(full);
    }

    private void findParts(int term, int letter, Side side) {
      wanted = Tree.LETTER_A + letter;
      side.openParts(letter);
      top = 0;
      for (int i = number[term] - 1; i >= 0; i--) {
        push(factor[term * FACTOR_ROOM + i]);
      }
      gatherFactors(0, side, 0);
    }

    /** PARTS of the PRODUCT that lies above the floor. */
    private void gatherFactors(int floor, Side side, int depth) {
      boolean goesOn = true;
      for (int at = top - 1; at >= floor && goesOn; at--) {
        int node = behind[at];
        top = at;
        gatherNode(node, side, depth);
        goesOn = tree.isFull(node);
      }
      top = floor;
    }

    private void gatherNode(int node, Side side, int depth) {
      if (depth > DEEPEST) {
        return;
      }
      int floor = top;
      switch (tree.kindOf(node)) {
        case Tree.SUM:
          for (int i = 0; i < tree.childrenOf(node); i++) {
            gatherNode(tree.childOf(node, i), side, depth + 1);
          }
          break;
        case Tree.PRODUCT:
          pushFactors(node);
          gatherFactors(floor, side, depth + 1);
          break;
        case Tree.STAR:
          push(node);
          gatherNode(tree.childOf(node, 0), side, depth + 1);
          top = floor;
          break;
        default:
          if (node == wanted) {
            side.addPart(numberOfTerm());
          }
          break;
      }
    }

    private void pushFactors(int node) {
      if (tree.kindOf(node) == Tree.PRODUCT) {
        for (int i = tree.childrenOf(node) - 1; i >= 0; i--) {
          push(tree.childOf(node, i));
        }
      } else if (node != Tree.ONE) {
        push(node);
      }
    }

    private void push(int node) {
      if (top < BEHIND_ROOM) {
        behind[top] = node;
        top++;
      }
    }

    /** The number of the TERM that lies in behind, a new one if there is none such yet. */
    private int numberOfTerm() {
      for (int term = 0; term < terms; term++) {
        if (isBehind(term)) {
          return term;
        }
      }
      if (terms >= MOST_TERMS || top > FACTOR_ROOM) {
        return NONE;
      }
      int term = terms;
      terms++;
      number[term] = top;
      for (int i = 0; i < top; i++) {
        factor[term * FACTOR_ROOM + i] = behind[top - 1 - i];
      }
      return term;
    }

    private boolean isBehind(int term) {
      if (number[term] != top) {
        return false;
      }
      for (int i = 0; i < top; i++) {
        if (factor[term * FACTOR_ROOM + i] != behind[top - 1 - i]) {
          return false;
        }
      }
      return true;
    }
  }

  /** What is known of the EXPRESSION of a SIDE: its SHAPE SPELT, its TERMS and their PARTS. */
  private static final class Side {
    /** Stars in one another in 30 bytes, each behind a TERM once, stay under this. */
    private static final int TERM_BYTES = 160;
    private static final int ROWS = MOST_TERMS * LETTERS;

    final Text spelt = new Text(MOST_BYTES);
    final Text termSigns = new Text(MOST_TERMS * TERM_BYTES);
    private final int[] signsEnd = new int[MOST_TERMS];
    private final int[] partSets = new int[ROWS];
    private final int[] partsFrom = new int[ROWS + 1];
    private final int[] part = new int[MOST_TERMS * MOST_TERMS];
    int terms;
    int shortest;
    int nest;
    private int full;
    private int row;

    void clear() {
      spelt.clear();
      termSigns.clear();
      terms = 0;
      shortest = NONE;
      nest = 0;
      full = 0;
      row = 0;
    }

    /** The signs of the TERM are there already; its PARTS, letter by letter, come next. */
    void openTerm(boolean isFull) {
      signsEnd[terms] = termSigns.size;
      if (isFull) {
        full |= 1 << terms;
      }
    }

    void openParts(int letter) {
      row = terms * LETTERS + letter;
      partSets[row] = 0;
      partsFrom[row + 1] = partsFrom[row];
    }

    void addPart(int term) {
      int end = partsFrom[row + 1];
      if (term < 0 || end >= part.length || (partSets[row] >> term & 1) != 0) {
        return;
      }
      partSets[row] |= 1 << term;
      part[end] = term;
      partsFrom[row + 1] = end + 1;
    }

    void closeTerm() {
      terms++;
    }

    void become(Side other) {
      spelt.become(other.spelt);
      termSigns.become(other.termSigns);
      terms = other.terms;
      shortest = other.shortest;
      nest = other.nest;
      full = other.full;
      row = other.row;
      int rows = terms * LETTERS;
      System.arraycopy(other.signsEnd, 0, signsEnd, 0, terms);
      System.arraycopy(other.partSets, 0, partSets, 0, rows);
      System.arraycopy(other.partsFrom, 0, partsFrom, 0, rows + 1);
      System.arraycopy(other.part, 0, part, 0, partsFrom[rows]);
    }

    boolean isTerm(int term) {
      return term >= 0 && term < terms;
    }

    boolean isSet(int set) {
      return (set & ~((1 << terms) - 1)) == 0;
    }

    boolean anyFull(int set) {
      return (set & full) != 0;
    }

    int lettersSpelt() {
      int n = 0;
      for (int i = 0; i < LETTERS; i++) {
        n += spelt.countOf(FIRST_LETTER + i);
      }
      return n;
    }

    int termBytes(int term) {
      return isTerm(term) ? signsEnd[term] - signsStart(term) : NONE;
    }

    int termByte(int term, int i) {
      return i >= 0 && i < termBytes(term) ? termSigns.at(signsStart(term) + i) : NONE;
    }

    int partSet(int term, int letter) {
      return isTerm(term) && isLetter(letter) ? partSets[term * LETTERS + letter] : 0;
    }

    int partsOf(int term, int letter) {
      if (!isTerm(term) || !isLetter(letter)) {
        return 0;
      }
      int at = term * LETTERS + letter;
      return partsFrom[at + 1] - partsFrom[at];
    }

    int partOf(int term, int letter, int i) {
      return i >= 0 && i < partsOf(term, letter) ? part[partsFrom[term * LETTERS + letter] + i] : NONE;
    }

    int partsOfSet(int set, int letter) {
      int parts = 0;
      if (set == 0 || !isLetter(letter)) {
        return parts;
      }
      for (int term = 0; term < terms; term++) {
        if ((set >> term & 1) != 0) {
          parts |= partSets[term * LETTERS + letter];
        }
      }
      return parts;
    }

    /** The TERM of this SIDE that is LIKE a TERM of another one. */
    int alikeTerm(Side other, int term) {
      if (!other.isTerm(term)) {
        return NONE;
      }
      for (int own = 0; own < terms; own++) {
        if (isAlike(own, other, term)) {
          return own;
        }
      }
      return NONE;
    }

    private static boolean isLetter(int letter) {
      return letter >= 0 && letter < LETTERS;
    }

    private int signsStart(int term) {
      return term == 0 ? 0 : signsEnd[term - 1];
    }

    /** A SHAPE can be read back from how it is SPELT, so LIKE ones are those SPELT alike. */
    private boolean isAlike(int own, Side other, int term) {
      int bytes = termBytes(own);
      if (bytes != other.termBytes(term)) {
        return false;
      }
      int start = signsStart(own);
      int otherStart = other.signsStart(term);
      for (int i = 0; i < bytes; i++) {
        if (termSigns.at(start + i) != other.termSigns.at(otherStart + i)) {
          return false;
        }
      }
      return true;
    }
  }

  /** The LINES of a proof, and what stays known of the SEARCH that made them. */
  private static final class Lines {
    private static final int PREMISE_ROOM = MOST_LINES * MOST_TERMS;

    final int[] goal = new int[MOST_LINES];
    final int[] set = new int[MOST_LINES];
    final int[] rule = new int[MOST_LINES];
    final int[] from = new int[MOST_LINES];
    final int[] number = new int[MOST_LINES];
    final int[] premise = new int[PREMISE_ROOM];
    final Text apartWord = new Text(MOST_LINES);
    private final int[] uses = new int[MOST_LINES];
    int size;
    int premises;
    int longest;
    boolean separated;

    void clear() {
      size = 0;
      premises = 0;
      longest = 0;
      separated = false;
      apartWord.clear();
    }

    boolean isLine(int line) {
      return line >= 0 && line < size;
    }

    boolean isPremise(int line, int what) {
      return isLine(line) && what >= ROW && what - ROW < number[line];
    }

    int premiseOf(int line, int i) {
      return isLine(line) && i >= 0 && i < number[line] ? premise[from[line] + i] : NONE;
    }

    /** The new LINE's number; NONE: it would be one too many. */
    int addLine(int term, int terms) {
      if (size >= MOST_LINES) {
        return NONE;
      }
      int line = size;
      size++;
      goal[line] = term;
      set[line] = terms;
      rule[line] = NONE;
      from[line] = 0;
      number[line] = 0;
      return line;
    }

    void openPremises(int line) {
      from[line] = premises;
      number[line] = 0;
    }

    void addPremise(int line, int of) {
      if (premises < PREMISE_ROOM) {
        premise[premises] = of;
        premises++;
        number[line]++;
      }
    }

    void dropPremises(int line) {
      premises -= number[line];
      number[line] = 0;
    }

    int dropLast() {
      if (size == 0) {
        return NONE;
      }
      size--;
      dropPremises(size);
      return size;
    }

    int ofRule(int which) {
      int n = 0;
      for (int i = 0; i < size; i++) {
        if (rule[i] == which) {
          n++;
        }
      }
      return n;
    }

    int premisesOfNone() {
      Arrays.fill(uses, 0);
      for (int i = 0; i < premises; i++) {
        if (isLine(premise[i])) {
          uses[premise[i]]++;
        }
      }
      int n = 0;
      for (int i = 0; i < size; i++) {
        if (uses[i] == 0) {
          n++;
        }
      }
      return n;
    }

    void become(Lines other) {
      size = other.size;
      premises = other.premises;
      longest = other.longest;
      separated = other.separated;
      apartWord.become(other.apartWord);
      System.arraycopy(other.goal, 0, goal, 0, size);
      System.arraycopy(other.set, 0, set, 0, size);
      System.arraycopy(other.rule, 0, rule, 0, size);
      System.arraycopy(other.from, 0, from, 0, size);
      System.arraycopy(other.number, 0, number, 0, size);
      System.arraycopy(other.premise, 0, premise, 0, premises);
    }
  }

  /** The SEARCH for a proof that all words of the left SIDE are words of the right one. */
  private static final class Search {
    /** By LINE: whence it came, by which LETTER, how long its WORD is. */
    private final int[] parent = new int[MOST_LINES];
    private final int[] letterBy = new int[MOST_LINES];
    private final int[] wordSize = new int[MOST_LINES];
    /** LINES of one TERM are chained in their order, so that the first fit is found soon. */
    private final int[] firstOf = new int[MOST_TERMS];
    private final int[] lastOf = new int[MOST_TERMS];
    private final int[] nextOf = new int[MOST_LINES];
    private final int[] alike = new int[MOST_TERMS];
    private Side left;
    private Side right;
    private Lines lines;

    Search(Side left, Side right, Lines lines) {
      this.left = left;
      this.right = right;
      this.lines = lines;
    }

    int run(Side ofLeft, Side ofRight, Lines into) {
      left = ofLeft;
      right = ofRight;
      lines = into;
      lines.clear();
      for (int term = 0; term < left.terms; term++) {
        firstOf[term] = NONE;
        alike[term] = right.alikeTerm(left, term);
      }
      comeTo(0, 1, NONE, 0);
      int outcome = PROVED;
      for (int i = 0; i < MOST_LINES && i < lines.size && outcome == PROVED; i++) {
        outcome = takeTurn(i);
      }
      return outcome;
    }

    private int takeTurn(int line) {
      int term = lines.goal[line];
      int set = lines.set[line];
      if (alike[term] != NONE && (set >> alike[term] & 1) != 0) {
        lines.rule[line] = MEMBER;
        return PROVED;
      }
      if (left.anyFull(1 << term) && !right.anyFull(set)) {
        tellApart(line);
        return SEPARATED;
      }
      if (!step(line, term, set)) {
        lines.dropPremises(line);
        return GIVEN_UP;
      }
      lines.rule[line] = STEP;
      return PROVED;
    }

    private boolean step(int line, int term, int set) {
      lines.openPremises(line);
      for (int letter = 0; letter < LETTERS; letter++) {
        int most = right.partsOfSet(set, letter);
        int n = left.partsOf(term, letter);
        for (int i = 0; i < n; i++) {
          int found = lineFor(left.partOf(term, letter, i), most, line, letter);
          if (found == NONE) {
            return false;
          }
          lines.addPremise(line, found);
        }
      }
      return true;
    }

    private int lineFor(int term, int most, int parentLine, int letter) {
      if (!left.isTerm(term)) {
        return NONE;
      }
      int line = firstOf[term];
      for (int i = 0; i < MOST_LINES && line != NONE; i++) {
        if ((lines.set[line] & ~most) == 0) {
          return line;
        }
        line = nextOf[line];
      }
      return comeTo(term, most, parentLine, letter);
    }

    private int comeTo(int term, int set, int parentLine, int letter) {
      int line = lines.addLine(term, set);
      if (line == NONE) {
        return NONE;
      }
      parent[line] = parentLine;
      letterBy[line] = letter;
      wordSize[line] = parentLine == NONE ? 0 : wordSize[parentLine] + 1;
      lines.longest = Math.max(lines.longest, wordSize[line]);
      nextOf[line] = NONE;
      if (firstOf[term] == NONE) {
        firstOf[term] = line;
      } else {
        nextOf[lastOf[term]] = line;
      }
      lastOf[term] = line;
      return line;
    }

    private void tellApart(int line) {
      Text word = lines.apartWord;
      lines.separated = true;
      for (int i = 0; i < wordSize[line]; i++) {
        word.add(0);
      }
      int at = line;
      for (int i = wordSize[line] - 1; i >= 0; i--) {
        word.setAt(i, letterBy[at] + 1);
        at = parent[at];
      }
    }
  }

  /** Checks LINES by their own numbers alone, whatever the SEARCH did. */
  private static final class Kernel {
    private static final int CANT_BE = 1;
    private static final int NO_MEMBER = 2;
    private static final int FULL_ALONE = 3;
    private static final int NO_LINE = 4;
    private static final int PART_LEFT_OUT = 5;
    private static final int OTHER_START = 6;

    private Side left;
    private Side right;
    private Lines lines;
    int bad = NO_SUCH;
    int reason;
    int letter = NONE;
    int detail = NONE;

    Kernel(Side left, Side right, Lines lines) {
      this.left = left;
      this.right = right;
      this.lines = lines;
    }

    /** bad is the first BAD LINE then, NONE if there is none, -2 if there are no LINES. */
    void look(Side ofLeft, Side ofRight, Lines at) {
      left = ofLeft;
      right = ofRight;
      lines = at;
      letter = NONE;
      detail = NONE;
      reason = 0;
      bad = lines.size == 0 ? NO_SUCH : NONE;
      for (int i = 0; i < lines.size && bad == NONE; i++) {
        reason = reasonOf(i);
        if (reason != 0) {
          bad = i;
        }
      }
      if (bad == NONE && !startsWell()) {
        bad = 0;
        reason = OTHER_START;
      }
    }

    private boolean startsWell() {
      return lines.goal[0] == 0 && (lines.set[0] == 0 || lines.set[0] == 1);
    }

    private int reasonOf(int line) {
      int term = lines.goal[line];
      int set = lines.set[line];
      int rule = lines.rule[line];
      if (!left.isTerm(term) || !right.isSet(set) || (rule != MEMBER && rule != STEP)) {
        return CANT_BE;
      }
      if (rule == MEMBER) {
        return isMember(term, set) ? 0 : NO_MEMBER;
      }
      if (left.anyFull(1 << term) && !right.anyFull(set)) {
        return FULL_ALONE;
      }
      if (!premisesAreLines(line)) {
        return NO_LINE;
      }
      return partsAreProved(line, term, set) ? 0 : PART_LEFT_OUT;
    }

    private boolean isMember(int term, int set) {
      int alike = right.alikeTerm(left, term);
      return alike != NONE && (set >> alike & 1) != 0;
    }

    private boolean premisesAreLines(int line) {
      for (int i = 0; i < lines.number[line]; i++) {
        if (!lines.isLine(lines.premiseOf(line, i))) {
          detail = i;
          return false;
        }
      }
      return true;
    }

    private boolean partsAreProved(int line, int term, int set) {
      for (int x = 0; x < LETTERS; x++) {
        int most = right.partsOfSet(set, x);
        for (int i = 0; i < left.partsOf(term, x); i++) {
          int part = left.partOf(term, x, i);
          if (!hasPremiseFor(line, part, most)) {
            letter = x + 1;
            detail = part;
            return false;
          }
        }
      }
      return true;
    }

    private boolean hasPremiseFor(int line, int part, int most) {
      for (int i = 0; i < lines.number[line]; i++) {
        int by = lines.premiseOf(line, i);
        if (lines.isLine(by) && lines.goal[by] == part && (lines.set[by] & ~most) == 0) {
          return true;
        }
      }
      return false;
    }
  }

  /** Counts words of a length, by the SETS of TERMS that they lead to on both SIDES. */
  private static final class WordCounter {
    private static final int CELLS = 512;

    /** Counts found in this call; a newer one takes the cell of an older one. */
    private final int[] cellLeft = new int[CELLS];
    private final int[] cellRight = new int[CELLS];
    private final int[] cellRest = new int[CELLS];
    private final int[] cellCount = new int[CELLS];
    private Side left;
    private Side right;
    private int which;

    WordCounter(Side left, Side right) {
      this.left = left;
      this.right = right;
    }

    int howMany(Side ofLeft, Side ofRight, int kind, int n) {
      begin(ofLeft, ofRight, kind);
      return countFrom(startLeft(), startRight(), n);
    }

    int nth(Side ofLeft, Side ofRight, int kind, int n, int k) {
      if (k >= howMany(ofLeft, ofRight, kind, n)) {
        return NONE;
      }
      int atLeft = startLeft();
      int atRight = startRight();
      int ahead = k;
      int told = 0;
      for (int rest = n - 1; rest >= 0; rest--) {
        int letter = 0;
        int fit = countBehind(atLeft, atRight, letter, rest);
        while (letter < LETTERS - 1 && ahead >= fit) {
          ahead -= fit;
          letter++;
          fit = countBehind(atLeft, atRight, letter, rest);
        }
        told = told * 4 + letter + 1;
        atLeft = left.partsOfSet(atLeft, letter);
        atRight = right.partsOfSet(atRight, letter);
      }
      return told;
    }

    private void begin(Side ofLeft, Side ofRight, int kind) {
      left = ofLeft;
      right = ofRight;
      which = kind;
      Arrays.fill(cellRest, NONE);
    }

    /** A SIDE that is not asked for is left out: then fewer pairs of SETS come. */
    private int startLeft() {
      return which == 1 ? 0 : 1;
    }

    private int startRight() {
      return which == 0 ? 0 : 1;
    }

    private int countBehind(int atLeft, int atRight, int letter, int rest) {
      return countFrom(left.partsOfSet(atLeft, letter), right.partsOfSet(atRight, letter), rest);
    }

    /** rest is at most 8 and falls by one a level. */
    private int countFrom(int atLeft, int atRight, int rest) {
      if (rest <= 0) {
        return fits(left.anyFull(atLeft), right.anyFull(atRight)) ? 1 : 0;
      }
      if (atLeft == 0 && atRight == 0) {
        return which == 5 ? allWords(rest) : 0;
      }
      int cell = cellOf(atLeft, atRight, rest);
      if (cellRest[cell] == rest && cellLeft[cell] == atLeft && cellRight[cell] == atRight) {
        return cellCount[cell];
      }
      int n = 0;
      for (int letter = 0; letter < LETTERS; letter++) {
        n += countBehind(atLeft, atRight, letter, rest - 1);
      }
      cellLeft[cell] = atLeft;
      cellRight[cell] = atRight;
      cellRest[cell] = rest;
      cellCount[cell] = n;
      return n;
    }

    private boolean fits(boolean inLeft, boolean inRight) {
      switch (which) {
        case 0: return inLeft;
        case 1: return inRight;
        case 2: return inLeft && inRight;
        case 3: return inLeft && !inRight;
        case 4: return inRight && !inLeft;
        default: return !inLeft && !inRight;
      }
    }

    private static int allWords(int n) {
      int all = 1;
      for (int i = 0; i < n; i++) {
        all *= LETTERS;
      }
      return all;
    }

    private static int cellOf(int atLeft, int atRight, int rest) {
      int mixed = atLeft * 0x9E3779B1 + atRight * 0x85EBCA6B + rest * 0x27D4EB2F;
      return (mixed ^ mixed >>> 15) & (CELLS - 1);
    }
  }

  /** All that is, as an image holds it. */
  private static final class Room {
    final Text tape = new Text(TAPE_BYTES);
    final Side[] sides = {new Side(), new Side()};
    final Text[] slots = new Text[SLOTS];
    final Lines lines = new Lines();
    int fault = NONE;

    Room() {
      for (int i = 0; i < SLOTS; i++) {
        slots[i] = new Text(MOST_BYTES);
      }
    }

    void become(Room other) {
      tape.become(other.tape);
      fault = other.fault;
      lines.become(other.lines);
      for (int i = 0; i < SIDES; i++) {
        sides[i].become(other.sides[i]);
      }
      for (int i = 0; i < SLOTS; i++) {
        slots[i].become(other.slots[i]);
      }
    }
  }
}
