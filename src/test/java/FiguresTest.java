/** Promises 30 to 32: the mean of moves, the share of new states, and whether all is sound. */
public final class FiguresTest {
  private static final Class<IllegalStateException> STATE = IllegalStateException.class;
  private static final Class<ArithmeticException> ARITHMETIC = ArithmeticException.class;

  private FiguresTest() {}

  public static void main(String[] args) {
    withoutSearch();
    means();
    meansOfAllMovesInEachMode();
    shares();
    sharesOfMovesThatWereMade();
    soundInEachMode();
    Check.end();
  }

  private static Statewarden chains(int processes, int last) {
    Statewarden x = new Statewarden();
    for (int process = 0; process < processes; process++) {
      x.addProcess();
      for (int location = 0; location < last; location++) {
        x.addStep(process, location, location + 1, 'k', 0, 0);
      }
      for (int location = 0; location < 12; location++) {
        x.setMarks(process, location, true, false);
      }
    }
    return x;
  }

  private static void withoutSearch() {
    Statewarden x = chains(1, 1);
    Check.fails("meanMoves", STATE, x::meanMoves);
    Check.fails("newShare", STATE, x::newShare);
    Check.same("isSound", x.isSound(), true);
    x.begin('a');
    x.search(1);
    x.setStart(0, 1);
    Check.fails("dropped, meanMoves", STATE, x::meanMoves);
    Check.fails("dropped, newShare", STATE, x::newShare);
    Check.same("dropped, isSound", x.isSound(), true);
  }

  private static void means() {
    Statewarden x = new Statewarden();
    x.begin('a');
    Check.same("no moves", x.meanMoves(), 0.0);
    Statewarden y = chains(2, 2);
    y.begin('a');
    Check.same("the start alone", y.meanMoves(), 2.0);
    y.search(1);
    // Of three states each one has two moves, though two are not gone on from.
    Check.same("with states that are not gone on from", y.meanMoves(), 2.0);
    y.search(2);
    Check.same("6 states", y.meanMoves(), (double) 10 / (double) 6);
    y.search(500);
    Check.same("9 states", y.meanMoves(), (double) 12 / (double) 9);
    Check.same("once more", y.meanMoves(), (double) 12 / (double) 9);
  }

  private static void meansOfAllMovesInEachMode() {
    Statewarden x = chains(2, 3);
    x.begin('p');
    x.search(500);
    Check.same("made in 'p'", x.made(), 6L);
    // The first three states have two moves, the next three have one, the last one has none.
    Check.same("all moves in 'p'", x.meanMoves(), (double) 9 / (double) 7);
    x = chains(2, 2);
    x.begin('s');
    x.search(500);
    Check.same("all moves in 's'", x.meanMoves(), (double) 8 / (double) 6);
    x = chains(1, 1);
    x.addStep(0, 1, 2, 'a', 0, 0);
    x.addStep(0, 1, 2, 'k', 0, 0);
    x.begin('a');
    x.search(500);
    Check.same("moves that assert count", x.meanMoves(), (double) 3 / (double) 2);
  }

  private static void shares() {
    Statewarden x = chains(2, 2);
    x.begin('a');
    Check.fails("no move", ARITHMETIC, x::newShare);
    x.search(1);
    Check.same("all are new", x.newShare(), 1.0f);
    x.search(2);
    Check.same("5 of 6", x.newShare(), (float) 5 / (float) 6);
    x.search(500);
    Check.same("8 of 12", x.newShare(), (float) 8 / (float) 12);
    x.begin('a');
    Check.fails("begun anew", ARITHMETIC, x::newShare);
    Statewarden y = chains(1, 0);
    y.begin('a');
    y.search(1);
    Check.fails("a state without moves", ARITHMETIC, y::newShare);
    y.addStep(0, 0, 0, 'k', 0, 0);
    y.begin('a');
    y.search(1);
    Check.same("none is new", y.newShare(), 0.0f);
    y.addInvariant(0, 0);
    y.begin('a');
    Check.fails("a fault at the start", ARITHMETIC, y::newShare);
  }

  private static void sharesOfMovesThatWereMade() {
    Statewarden x = chains(2, 3);
    x.begin('p');
    x.search(500);
    Check.same("in 'p'", x.newShare(), 1.0f);
    x = chains(2, 2);
    x.begin('s');
    x.search(500);
    Check.same("in 's'", x.newShare(), (float) 5 / (float) 8);
    x = chains(1, 1);
    x.addStep(0, 1, 1, 'k', 0, 0);
    x.addStep(0, 1, 2, 'a', 0, 0);
    x.begin('a');
    x.search(500);
    Check.same("the move that asserts is not made", x.newShare(), (float) 1 / (float) 2);
    x = chains(1, 0);
    x.addStep(0, 0, 1, 'a', 0, 0);
    x.begin('a');
    x.search(500);
    Check.same("a fault", x.verdict(), 'f');
    Check.fails("ahead of any move", ARITHMETIC, x::newShare);
  }

  private static void soundInEachMode() {
    for (char mode : new char[] {'a', 'p', 's', 'h'}) {
      Statewarden x = chains(3, 4);
      for (int process = 0; process < 3; process++) {
        x.addStep(process, 4, 5, 'i', 3 + 2 * process, 1);
        x.addStep(process, 5, 0, 's', 0, 1);
      }
      x.begin(mode);
      Check.same("begun in " + mode, x.isSound(), true);
      x.search(20);
      Check.same("on the way in " + mode, x.isSound(), true);
      for (int turn = 0; turn < 5; turn++) {
        x.search(500);
      }
      Check.same("at the end in " + mode, x.isSound(), true);
      x.addStep(0, 0, 9, 'a', 0, 1);
      x.begin(mode);
      for (int turn = 0; turn < 5; turn++) {
        x.search(500);
      }
      Check.same("with a fault in " + mode, x.verdict(), 'f');
      Check.same("that replays in " + mode, x.isSound() && x.replays(), true);
    }
  }
}
