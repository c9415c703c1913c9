/** Promises 30 to 32, sentence by sentence: figures, and whether all is sound. */
public final class Promises30To32Test {
  private static final Class<IllegalStateException> STATE = IllegalStateException.class;
  private static final Class<ArithmeticException> ARITHMETIC = ArithmeticException.class;
  private static final String NO_SEARCH = "Throws `IllegalStateException` if there is no search";

  private Promises30To32Test() {}

  public static void main(String[] args) {
    meanMoves();
    newShare();
    isSound();
    Check.end();
  }

  private static void needsSearch(Look.Call call) {
    Look.refused("a new object", STATE, Statewarden::new, call);
    Look.refused("none begun", STATE, () -> Make.chains(2, 2), call);
    Look.refused("dropped", STATE, () -> {
      Statewarden x = Make.chains(2, 2);
      Make.searchAll(x, 'a');
      x.addInvariant(0, 3);
      return x;
    }, call);
  }

  private static void meanMoves() {
    Sentences.of("Promise 30: meanMoves");
    Sentences.test("Returns the mean number of moves of the states that were found", () -> {
      Statewarden x = Make.chains(3, 1);
      x.begin('a');
      Check.same("of the start alone", x.meanMoves(), 3.0);
      x.search(1);
      Check.same("of four, three of which are not gone on from", x.meanMoves(), 9.0 / 4);
      x.search(500);
      Check.same("of all eight", x.meanMoves(), 12.0 / 8);
      Statewarden y = new Statewarden();
      y.begin('a');
      Check.same("none", y.meanMoves(), 0.0);
    });
    Sentences.test("all of them.", () -> {
      Statewarden x = Make.chains(2, 3);
      Make.searchAll(x, 'p');
      Check.same("also those that were not made in 'p'", x.meanMoves(), 9.0 / 7);
      Statewarden y = Make.ending(1);
      y.addStep(0, 0, 1, 'a', 0, 0);
      y.addStep(0, 0, 1, 'k', 0, 0);
      Make.searchAll(y, 'a');
      Check.same("also those behind a fault", y.meanMoves(), 2.0);
      Statewarden z = Make.chains(2, 2);
      Make.searchAll(z, 's');
      Check.same("of the states that were found in 's'", z.meanMoves(), 8.0 / 6);
      Statewarden w = Make.chains(3, 2);
      w.begin('a');
      w.search(4);
      Check.same("states", w.states(), 10);
      // Three moves while no process is at 2; three of the ten states have one at 2.
      Check.same("also of those that are not gone on from", w.meanMoves(), 27.0 / 10);
    });
    Sentences.test("Returns the sum of the numbers divided by the number of states, both converted"
        + " to double.", () -> {
      Statewarden x = Make.longWay(1);
      Make.searchAll(x, 'a');
      Check.same("1998 by 1999", x.meanMoves(), (double) 1998 / (double) 1999);
      Statewarden y = Make.chains(1, 2);
      Make.searchAll(y, 'h');
      Check.same("2 by 3", y.meanMoves(), (double) 2 / (double) 3);
      Statewarden z = Make.longWay(2);
      Make.searchAll(z, 'a');
      Check.same("1999 by 2000", z.meanMoves(), (double) 1999 / (double) 2000);
    });
    Sentences.test(NO_SEARCH, () -> needsSearch(Statewarden::meanMoves));
    Sentences.allTested();
  }

  private static void newShare() {
    Sentences.of("Promise 31: newShare");
    Sentences.test("Returns the share of the moves made by the search that reached states which had"
        + " not been found.", () -> {
      Statewarden x = Make.chains(2, 1);
      x.begin('a');
      float[] due = {1.0f, 1.0f, 0.75f, 0.75f, 0.75f};
      for (float share : due) {
        x.search(1);
        Check.same("the share", x.newShare(), share);
      }
      Statewarden y = Make.ending(1);
      y.addStep(0, 0, 0, 'k', 0, 0);
      Make.searchAll(y, 'a');
      Check.same("none", y.newShare(), 0.0f);
    });
    Sentences.test("Returns the number of states that were found, without the first one, divided by"
        + " the number of moves made, both converted to float.", () -> {
      Statewarden x = Make.longWay(1);
      Make.searchAll(x, 'a');
      Check.same("1998 by 1998", x.newShare(), 1.0f);
      Statewarden y = Make.chains(3, 2);
      Make.searchAll(y, 'a');
      Check.same("26 by 54", y.newShare(), (float) 26 / (float) 54);
      Make.searchAll(y, 's');
      Check.same("9 by 20", y.newShare(), (float) 9 / (float) 20);
      Make.searchAll(y, 'p');
      Check.same("6 by 6, as the others were not made", y.newShare(), 1.0f);
      Statewarden z = Make.ending(1);
      for (int number = 0; number < 7; number++) {
        z.addStep(0, 0, number % 3, 'k', 0, 0);
      }
      Make.searchAll(z, 'a');
      Check.same("2 by 7", z.newShare(), (float) 2 / (float) 7);
      Check.same("which is another one in double", z.newShare() == (double) 2 / 7, false);
    });
    Sentences.test(NO_SEARCH, () -> needsSearch(Statewarden::newShare));
    Sentences.test("Throws `ArithmeticException` if no move was made", () -> {
      for (char mode : Make.MODES) {
        Look.refused("begun", ARITHMETIC, () -> {
          Statewarden x = Make.chains(1, 1);
          x.begin(mode);
          return x;
        }, Statewarden::newShare);
        Look.refused("no moves", ARITHMETIC, () -> {
          Statewarden x = Make.ending(2);
          Make.searchAll(x, mode);
          return x;
        }, Statewarden::newShare);
        Look.refused("a fault ahead of the first one", ARITHMETIC, () -> {
          Statewarden x = Make.ending(1);
          x.addStep(0, 0, 1, 'a', 0, 0);
          x.addStep(0, 0, 2, 'k', 0, 0);
          Make.searchAll(x, mode);
          return x;
        }, Statewarden::newShare);
        Look.refused("begun anew", ARITHMETIC, () -> {
          Statewarden x = Make.chains(1, 1);
          Make.searchAll(x, 'a');
          x.begin(mode);
          return x;
        }, Statewarden::newShare);
      }
    });
    Sentences.allTested();
  }

  private static void isSound() {
    Sentences.of("Promise 32: isSound");
    Sentences.test("Checks the search, if there is one", () -> {
      Check.same("a new object", new Statewarden().isSound(), true);
      Statewarden x = Make.with(1);
      Check.same("none begun", x.isSound(), true);
      Make.searchAll(x, 'a');
      Check.same("with a fault", x.isSound(), true);
      x.setMarks(0, 0, true, false);
      Check.same("dropped", x.isSound(), true);
    });
    Sentences.test("no two states that were found have the same code", () -> {
      for (char mode : Make.MODES) {
        Statewarden x = Make.longWay(2);
        Make.searchAll(x, mode);
        Check.same("in " + mode, x.isSound(), true);
        Statewarden y = Make.chains(3, 2);
        y.addStep(0, 2, 0, 'k', 0, 0);
        Make.searchAll(y, mode);
        Check.same("in " + mode, y.isSound(), true);
        for (int state = 0; state < y.states() && state < 18; state++) {
          for (int other = 0; other < state; other++) {
            Check.same("other codes", y.codeOf(state) == y.codeOf(other), false);
          }
        }
      }
    });
    Sentences.test("each one but the first was reached by a move of an earlier one", () -> {
      for (char mode : Make.MODES) {
        Statewarden x = Make.chains(2, 2);
        x.begin(mode);
        for (int turn = 0; turn < 10; turn++) {
          Check.same("on its way in " + mode, x.isSound(), true);
          x.search(1);
        }
      }
    });
    Sentences.test("and a fault that was found replays.", () -> {
      for (char mode : Make.MODES) {
        Statewarden x = Make.chains(3, 2);
        x.addStep(0, 2, 3, 'a', 0, 0);
        Make.searchAll(x, mode);
        Check.same("an assertion in " + mode, x.isSound() && x.replays(), true);
        x.setMarks(0, 2, true, true);
        x.addInvariant(0, 0);
        x.begin(mode);
        Check.same("an invariant in " + mode, x.isSound() && x.replays(), true);
      }
    });
    Sentences.test("Returns whether all of this is true.", () -> {
      for (char mode : Make.MODES) {
        Statewarden x = Make.chains(2, 1);
        x.begin(mode);
        Check.same("begun in " + mode, x.isSound(), true);
        x.search(1);
        Check.same("on its way in " + mode, x.isSound(), true);
        x.search(500);
        Check.same("ended in " + mode, x.isSound(), true);
        Check.same("asked once more", x.isSound(), true);
      }
    });
    Sentences.allTested();
  }
}
