/** The class's face. An object is promised for 512 calls: a test that goes beyond them is wrong itself. */
final class Prover {
  static final int PROMISED = 512;
  static int beyond = 0;

  private final InclusionProver of = new InclusionProver();
  private int calls = 0;

  int calls() {
    return calls;
  }

  private InclusionProver used() {
    calls++;
    if (calls > PROMISED) {
      beyond++;
    }
    return of;
  }

  int write(long w) {
    return used().write(w);
  }

  int side(int side) {
    return used().side(side);
  }

  int fault() {
    return used().fault();
  }

  void swap() {
    used().swap();
  }

  boolean keep(int side, int slot) {
    return used().keep(side, slot);
  }

  int make(int side, int what, int one, int other) {
    return used().make(side, what, one, other);
  }

  int shape(int side, int what) {
    return used().shape(side, what);
  }

  int term(int side, int term, int what) {
    return used().term(side, term, what);
  }

  int like(int side, int term) {
    return used().like(side, term);
  }

  boolean has(int side) {
    return used().has(side);
  }

  int words(int which, int n) {
    return used().words(which, n);
  }

  int word(int which, int n, int k) {
    return used().word(which, n, k);
  }

  int prove() {
    return used().prove();
  }

  int apart(int what) {
    return used().apart(what);
  }

  int count(int what) {
    return used().count(what);
  }

  int line(int line, int what) {
    return used().line(line, what);
  }

  int alter(int line, int what, int v) {
    return used().alter(line, what, v);
  }

  int cut() {
    return used().cut();
  }

  int check() {
    return used().check();
  }

  int why(int what) {
    return used().why(what);
  }

  int same() {
    return used().same();
  }

  int between(int one, int other) {
    return used().between(one, other);
  }

  boolean image(int k) {
    return used().image(k);
  }

  boolean again(int k) {
    return used().again(k);
  }
}
