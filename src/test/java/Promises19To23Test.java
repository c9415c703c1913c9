import java.util.NoSuchElementException;

/** Promises 19 to 23, sentence by sentence: faults, and the traces that lead to them. */
public final class Promises19To23Test {
  private static final Class<IllegalStateException> STATE = IllegalStateException.class;
  private static final Class<IndexOutOfBoundsException> INDEX = IndexOutOfBoundsException.class;
  private static final Class<NoSuchElementException> NONE = NoSuchElementException.class;
  private static final String NO_SEARCH = "Throws `IllegalStateException` if there is no search";
  private static final String NO_FAULT =
      "Throws `NoSuchElementException` if no fault was found";
  private static final String NO_PLACE =
      "Throws `IndexOutOfBoundsException` if there is no such place";

  private Promises19To23Test() {}

  public static void main(String[] args) {
    fault();
    traceLength();
    traceProcess();
    traceStep();
    replays();
    Check.end();
  }

  private static void needsSearch(Look.Call call) {
    Look.refused("a new object", STATE, Statewarden::new, call);
    Look.refused("none begun", STATE, () -> Make.with(2), call);
    Look.refused("dropped, with a fault", STATE, () -> {
      Statewarden x = asserting('a');
      x.setMarks(0, 0, true, false);
      return x;
    }, call);
  }

  private static void needsFault(Look.Call call) {
    for (char mode : Make.MODES) {
      Look.refused("begun in " + mode, NONE, () -> {
        Statewarden x = asserting(mode);
        x.begin(mode);
        return x;
      }, call);
      Look.refused("on its way in " + mode, NONE, () -> {
        Statewarden x = asserting(mode);
        x.begin(mode);
        x.search(1);
        return x;
      }, call);
      Look.refused("ended in " + mode, NONE, () -> {
        Statewarden x = Make.chains(2, 1);
        Make.searchAll(x, mode);
        return x;
      }, call);
    }
  }

  private static void needsPlace(OfPlace call) {
    for (char mode : Make.MODES) {
      for (int index : new int[] {Integer.MIN_VALUE, -1, 3, 4, 2000, Integer.MAX_VALUE}) {
        Look.refused("the place " + index, INDEX, () -> asserting(mode), x -> call.ask(x, index));
      }
    }
    Look.refused("none in an empty trace", INDEX, () -> broken(), x -> call.ask(x, 0));
    Look.refused("none in an empty trace", INDEX, () -> stuck(0), x -> call.ask(x, 0));
    Look.refused("one behind", INDEX, () -> stuck(2), x -> call.ask(x, 2));
  }

  private interface OfPlace {
    Object ask(Statewarden x, int index);
  }

  /** Three moves of the process 0, the last of which asserts what is not so. */
  private static Statewarden asserting(char mode) {
    Statewarden x = Make.ending(1);
    x.addStep(0, 5, 5, 'k', 0, 0);
    x.addStep(0, 2, 3, 'a', 3, 1);
    x.addStep(0, 1, 2, 's', 3, 1);
    x.addStep(0, 0, 1, 'k', 0, 0);
    Make.searchAll(x, mode);
    return x;
  }

  /** As many moves as are told, then stuck. */
  private static Statewarden stuck(int moves) {
    Statewarden x = Make.chains(1, moves);
    x.setMarks(0, moves, false, false);
    Make.searchAll(x, 'a');
    return x;
  }

  private static Statewarden broken() {
    Statewarden x = Make.chains(2, 2);
    x.addInvariant(1, 0);
    x.begin('a');
    return x;
  }

  /** A long way with an invariant that the state 1999 alone breaks. */
  private static Statewarden longest() {
    Statewarden x = Make.longWay(0);
    x.addStep(1, 0, 1, '=', 2, 0);
    x.addStep(1, 1, 2, 's', 5, 3);
    x.addInvariant(5, 3);
    Make.searchAll(x, 'a');
    return x;
  }

  private static void fault() {
    Sentences.of("Promise 19: fault");
    Sentences.test("Returns the fault.", () -> {
      Statewarden x = Make.with(1);
      x.addStep(0, 0, 1, 's', 0, 1);
      x.addStep(0, 0, 2, 'a', 0, 0);
      x.addInvariant(0, 1);
      Make.searchAll(x, 'a');
      Check.same("the first one", x.fault(), 'i');
      Check.same("asked once more", x.fault(), 'i');
      Check.same("the verdict", x.verdict(), 'f');
    });
    Sentences.test("Returns 'i', 'a' or 'd'.", () -> {
      Check.same("an invariant", broken().fault(), 'i');
      for (char mode : Make.MODES) {
        Check.same("an assertion in " + mode, asserting(mode).fault(), 'a');
        Statewarden x = Make.with(2);
        Make.searchAll(x, mode);
        Check.same("stuck in " + mode, x.fault(), 'd');
      }
    });
    Sentences.test(NO_SEARCH, () -> needsSearch(Statewarden::fault));
    Sentences.test("Throws `NoSuchElementException` if none was found",
        () -> needsFault(Statewarden::fault));
    Sentences.allTested();
  }

  private static void traceLength() {
    Sentences.of("Promise 20: traceLength");
    Sentences.test("Returns the number of moves of the trace: the moves by which the state with the"
        + " fault was found, from the state 0 on", () -> {
      for (int moves = 0; moves < 12; moves++) {
        Check.same("stuck behind " + moves, stuck(moves).traceLength(), moves);
      }
      Check.same("broken at the start", broken().traceLength(), 0);
      Check.same("the longest one", longest().traceLength(), 1999);
    });
    Sentences.test("for 'a', the move that asserts is the last one.", () -> {
      for (char mode : Make.MODES) {
        Statewarden x = asserting(mode);
        Check.same("three moves in " + mode, x.traceLength(), 3);
        Check.same("the last one", x.traceStep(2), 1);
      }
      Statewarden y = Make.with(2);
      y.addStep(1, 0, 1, 'a', 0, 0);
      Make.searchAll(y, 'a');
      Check.same("at the start", y.traceLength(), 1);
      Check.same("of the process 1", y.traceProcess(0), 1);
      Statewarden z = Make.longWay(1);
      z.addStep(1, 1, 1, 'a', 2, 0);
      Make.searchAll(z, 'a');
      Check.same("at the state 1998", z.traceLength(), 1999);
      Check.same("of the process 1", z.traceProcess(1998), 1);
    });
    Sentences.test("Returns the number of moves.", () -> {
      Statewarden x = Make.with(2);
      x.addChannel(0);
      x.addStep(0, 0, 1, 'w', 0, 0);
      x.addStep(1, 0, 1, 'r', 0, 0);
      Make.searchAll(x, 'a');
      Check.same("a move of two is one", x.traceLength(), 1);
    });
    Sentences.test(NO_SEARCH, () -> needsSearch(Statewarden::traceLength));
    Sentences.test(NO_FAULT, () -> needsFault(Statewarden::traceLength));
    Sentences.allTested();
  }

  private static void traceProcess() {
    Sentences.of("Promise 21: traceProcess");
    Sentences.test("Returns the process that leads a move of the trace.", () -> {
      Statewarden x = Make.with(3);
      x.addChannel(0);
      x.addStep(0, 0, 1, 'r', 0, 0);
      x.addStep(0, 1, 2, '=', 0, 2);
      x.addStep(1, 0, 1, '!', 0, 0);
      x.addStep(2, 0, 1, 'w', 0, 7);
      x.setStart(7, 2);
      x.addStep(1, 1, 2, 's', 1, 3);
      x.addInvariant(1, 3);
      Make.searchAll(x, 'a');
      Check.same("the length", x.traceLength(), 3);
      Check.same("the process of the 'w'", x.traceProcess(0), 2);
      Check.same("then the process 1", x.traceProcess(1), 1);
      Check.same("and it again", x.traceProcess(2), 1);
    });
    Sentences.test("`index`: the place of the move, from 0", () -> {
      Statewarden x = longest();
      Check.same("the first one", x.traceProcess(0), 0);
      Check.same("the last but two", x.traceProcess(1996), 0);
      Check.same("the last but one", x.traceProcess(1997), 1);
      Check.same("the last one", x.traceProcess(1998), 1);
      Check.fails("one behind", INDEX, () -> x.traceProcess(1999));
    });
    Sentences.test("Returns the number of the process.", () -> {
      for (int process = 0; process < 3; process++) {
        Statewarden x = Make.with(3);
        x.addStep(process, 0, 1, 'k', 0, 0);
        Make.searchAll(x, 'a');
        Check.same("the process", x.traceProcess(0), process);
      }
    });
    Sentences.test(NO_SEARCH, () -> {
      needsSearch(x -> x.traceProcess(0));
      needsSearch(x -> x.traceProcess(-1));
    });
    Sentences.test(NO_FAULT, () -> {
      needsFault(x -> x.traceProcess(0));
      needsFault(x -> x.traceProcess(-1));
    });
    Sentences.test(NO_PLACE, () -> needsPlace(Statewarden::traceProcess));
    Sentences.allTested();
  }

  private static void traceStep() {
    Sentences.of("Promise 22: traceStep");
    Sentences.test("Returns the number of the step that this process does.", () -> {
      Statewarden x = asserting('a');
      Check.same("the first move", x.traceStep(0), 3);
      Check.same("the second move", x.traceStep(1), 2);
      Check.same("the last move", x.traceStep(2), 1);
      Statewarden y = Make.with(2);
      y.addChannel(0);
      y.addStep(0, 0, 1, 'r', 0, 0);
      y.addStep(1, 5, 1, 'r', 0, 0);
      y.addStep(1, 5, 1, 'w', 0, 0);
      y.addStep(1, 0, 1, 'w', 0, 0);
      Make.searchAll(y, 'a');
      Check.same("of the process of the 'w'", y.traceStep(0), 2);
    });
    Sentences.test("`index`: the place of the move, from 0", () -> {
      Statewarden x = longest();
      Check.same("the first one", x.traceStep(0), 0);
      Check.same("the last but one", x.traceStep(1997), 0);
      Check.same("the last one", x.traceStep(1998), 1);
      Check.fails("one behind", INDEX, () -> x.traceStep(1999));
    });
    Sentences.test("Returns the number of the step.", () -> {
      for (int number = 0; number < 14; number++) {
        Statewarden x = Make.with(3);
        for (int step = 0; step < 14; step++) {
          x.addStep(2, step == number ? 0 : 11, 1, 'k', 0, 0);
        }
        Make.searchAll(x, 'a');
        Check.same("the step", x.traceStep(0), number);
      }
    });
    Sentences.test(NO_SEARCH, () -> {
      needsSearch(x -> x.traceStep(0));
      needsSearch(x -> x.traceStep(-1));
    });
    Sentences.test(NO_FAULT, () -> {
      needsFault(x -> x.traceStep(0));
      needsFault(x -> x.traceStep(-1));
    });
    Sentences.test(NO_PLACE, () -> needsPlace(Statewarden::traceStep));
    Sentences.allTested();
  }

  private static void replays() {
    Sentences.of("Promise 23: replays");
    Sentences.test("Tells whether the trace replays: from the start, each move in turn is a move of"
        + " the state at hand, and the fault is there at the end", () -> {
      for (int moves = 0; moves < 12; moves++) {
        Check.same("stuck behind " + moves, stuck(moves).replays(), true);
      }
      for (char mode : Make.MODES) {
        Check.same("an assertion in " + mode, asserting(mode).replays(), true);
      }
      Check.same("an empty trace", broken().replays(), true);
      Statewarden x = longest();
      Check.same("the longest one", x.replays(), true);
      Check.same("once more", x.replays(), true);
      Check.same("nothing is changed", x.traceLength(), 1999);
    });
    Sentences.test("in the mode 's', the state at hand is replaced by the one with the least code"
        + " behind each move.", () -> {
      Statewarden x = Make.with(3);
      for (int process = 0; process < 3; process++) {
        x.addStep(process, 0, 1, 's', 3 + 2 * process, 1);
        x.addStep(process, 1, 2, 'i', 0, 1);
        x.addStep(process, 2, 3, 'a', 0, 3);
      }
      Make.searchAll(x, 's');
      Check.same("a fault", x.verdict(), 'f');
      Check.same("the process 0 goes first", x.traceProcess(0), 0);
      Check.same("and is exchanged with the last one behind it", x.traceProcess(1), 0);
      Check.same("it replays", x.replays(), true);
      Make.searchAll(x, 'a');
      Check.same("and does so in 'a'", x.replays(), true);
    });
    Sentences.test("Returns whether it does.", () -> {
      Statewarden x = Make.with(2);
      x.addChannel(0);
      x.addStep(0, 0, 1, 'w', 0, 0);
      x.addStep(1, 0, 1, 'r', 0, 0);
      x.addStep(1, 0, 2, 'r', 0, 0);
      x.addStep(1, 2, 3, 'a', 0, 0);
      x.addStep(1, 1, 1, 'k', 0, 0);
      Make.searchAll(x, 'a');
      Check.same("with the very 'r' of a move of two", x.replays(), true);
      Check.same("two moves", x.traceLength(), 2);
    });
    Sentences.test(NO_SEARCH, () -> needsSearch(Statewarden::replays));
    Sentences.test(NO_FAULT, () -> needsFault(Statewarden::replays));
    Sentences.allTested();
  }
}
