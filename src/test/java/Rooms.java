import java.util.List;
import java.util.function.Function;
import java.util.function.Supplier;
import java.util.function.ToIntFunction;

/** Rooms with something in every corner, and all that can be seen of one: so what a call leaves behind it. */
abstract class Rooms extends Calls {
  static final String TAPE = "a(b+c)";

  /** Both images, three SLOTS, SIDES that are SEPARATED, LINES that are altered and cut, a FAULT, a tape. */
  static Prover room() {
    return room(TAPE, "ab)");
  }

  /** The same with another tape and another text of the latest side(), which has a FAULT; null: none. */
  static Prover room(String tape, String latest) {
    Prover x = withSides();
    if (latest != null) {
      put(x, 1, latest);
    }
    x.prove();
    x.alter(0, 11, 42);
    x.cut();
    tape(x, tape);
    return x;
  }

  /** The same, but without LINES: so it is when the SIDES are new. */
  static Prover roomWithoutLines(String tape, String latest) {
    Prover x = withSides();
    if (latest != null) {
      put(x, 1, latest);
    }
    tape(x, tape);
    return x;
  }

  static Prover withSides() {
    Prover x = of("c*", "b");
    x.keep(0, 3);
    x.prove();
    tape(x, "cc");
    x.image(0);
    x.has(0);
    put(x, 0, "a+bc");
    put(x, 1, "ab+a*");
    x.keep(0, 0);
    x.keep(1, 1);
    put(x, 0, "a+");
    x.prove();
    tape(x, "b+b");
    x.image(1);
    x.has(0);
    put(x, 0, "(a+b)*");
    put(x, 1, "(a+b+1)(b+1)(ba)*");
    return x;
  }

  /** A call answers want, and behind it all is as in the room 'after'. */
  static void leaves(String call, ToIntFunction<Prover> act, int want, Supplier<Prover> before,
      Supplier<Prover> after) {
    for (Function<Prover, String> look : LOOKS) {
      Prover x = before.get();
      due(call, act.applyAsInt(x), want);
      due("what is behind " + call, look.apply(x), look.apply(after.get()));
    }
  }

  /** A call answers want, and nothing happens by it. */
  static void nothing(String call, ToIntFunction<Prover> act, int want) {
    leaves(call, act, want, Rooms::room, Rooms::room);
  }

  static int told(boolean answer) {
    return answer ? 1 : 0;
  }

  /** Each looks at a new object, as some can be had only by calls that change it. */
  private static final List<Function<Prover, String>> LOOKS = List.of(Rooms::sidesSeen,
      x -> termsSeen(x, 0), x -> termsSeen(x, 1), Rooms::proofSeen, Rooms::linesSeen, Rooms::tapeSeen,
      Rooms::tapeAsWord, Rooms::slotsSeen, Rooms::searchSeen, x -> imageSeen(x, 0), x -> imageSeen(x, 1));

  private static String sidesSeen(Prover x) {
    StringBuilder out = new StringBuilder("sides:");
    for (int side = 0; side < 2; side++) {
      for (int what = 0; what < 9; what++) {
        out.append(' ').append(x.shape(side, what));
      }
      out.append(' ').append(spelt(x, side));
    }
    for (int which = 0; which < 6; which++) {
      out.append(' ').append(x.words(which, 3)).append(' ').append(x.word(which, 3, 1));
    }
    return out.toString();
  }

  private static String termsSeen(Prover x, int side) {
    StringBuilder out = new StringBuilder("terms:");
    int n = x.shape(side, 0);
    for (int term = 0; term < n && x.calls() < Prover.PROMISED - 40; term++) {
      for (int what = 0; what < 5; what++) {
        out.append(' ').append(x.term(side, term, what));
      }
      out.append(' ').append(x.term(side, term, 10)).append(' ').append(x.like(1 - side, term));
    }
    return out.toString();
  }

  private static String proofSeen(Prover x) {
    StringBuilder out = new StringBuilder("proof:");
    for (int what = 0; what < 7; what++) {
      out.append(' ').append(x.count(what));
    }
    out.append(" fault ").append(x.fault()).append(" apart ").append(apartOf(x));
    return out.append(" check ").append(x.check()).append(' ').append(whyOf(x)).toString();
  }

  private static String linesSeen(Prover x) {
    StringBuilder out = new StringBuilder("lines:");
    int n = x.count(0);
    for (int i = 0; i < n && x.calls() < Prover.PROMISED - 40; i++) {
      out.append(" | ").append(lineOf(x, i));
    }
    return out.toString();
  }

  /** What the SIDES come to: their PARTS in order are seen in it. */
  private static String searchSeen(Prover x) {
    String there = x.prove() + linesSeen(x);
    x.swap();
    return "search: " + there + " and back: " + x.prove() + linesSeen(x);
  }

  private static String tapeSeen(Prover x) {
    return "tape: " + x.count(6) + " " + x.side(0) + " " + x.fault() + " " + spelt(x, 0) + " " + x.count(0);
  }

  /** By SIDES that have each word: so bytes that are no LETTERS are seen. */
  private static String tapeAsWord(Prover x) {
    return "tape as a word: " + x.has(0) + " " + x.count(6);
  }

  private static String slotsSeen(Prover x) {
    StringBuilder out = new StringBuilder("slots:");
    for (int slot = 0; slot < 4; slot++) {
      out.append(' ').append(x.make(0, 0, slot, 0)).append(' ').append(spelt(x, 0));
    }
    return out.append(' ').append(x.between(0, 1)).toString();
  }

  private static String imageSeen(Prover x, int k) {
    StringBuilder out = new StringBuilder("image: ").append(x.again(k)).append(' ').append(sidesSeen(x));
    out.append(' ').append(proofSeen(x)).append(' ').append(linesSeen(x)).append(' ').append(searchSeen(x));
    return out.append(' ').append(slotsSeen(x)).append(' ').append(tapeSeen(x)).toString();
  }
}
