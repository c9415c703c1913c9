import java.util.NoSuchElementException;

/** Promises 9 to 18, sentence by sentence: the search, its states and their moves. */
public final class Promises09To18Test {
  private static final Class<IllegalArgumentException> ARGUMENT = IllegalArgumentException.class;
  private static final Class<IllegalStateException> STATE = IllegalStateException.class;
  private static final Class<IndexOutOfBoundsException> INDEX = IndexOutOfBoundsException.class;
  private static final Class<NoSuchElementException> NONE = NoSuchElementException.class;
  private static final Class<UnsupportedOperationException> UNSUPPORTED =
      UnsupportedOperationException.class;
  private static final String NO_SEARCH = "Throws `IllegalStateException` if there is no search";
  private static final String NO_STATE =
      "Throws `IndexOutOfBoundsException` if there is no such state";

  private Promises09To18Test() {}

  public static void main(String[] args) {
    begin();
    beginRefuses();
    search();
    searchRefuses();
    verdict();
    states();
    goneOn();
    codeOf();
    moves();
    reached();
    variableIn();
    made();
    Check.end();
  }

  /** Laid, and no search, or none any more. */
  private static Look.Script withoutSearch(boolean wasDropped) {
    return () -> {
      Statewarden x = Make.chains(2, 2);
      if (wasDropped) {
        x.begin('a');
        x.search(500);
        x.setStart(0, 0);
      }
      return x;
    };
  }

  private static void needsSearch(Look.Call call) {
    Look.refused("none begun", STATE, withoutSearch(false), call);
    Look.refused("dropped", STATE, withoutSearch(true), call);
    Look.refused("a new object", STATE, Statewarden::new, call);
  }

  /** Three chains with two moves each: 27 states; some of them are found. */
  private static Statewarden onItsWay(char mode) {
    Statewarden x = Make.chains(3, 2);
    x.begin(mode);
    x.search(2);
    return x;
  }

  private static void begin() {
    Sentences.of("Promise 9: begin");
    Sentences.test("Begins a search", () -> {
      for (char mode : Make.MODES) {
        Statewarden x = Make.chains(1, 2);
        x.begin(mode);
        Check.same("states", x.states(), 1);
        Check.same("goneOn", x.goneOn(), 0);
        Check.same("made", x.made(), 0L);
        Check.same("search", x.search(1), 1);
      }
    });
    Sentences.test("in place of another one.", () -> {
      for (char mode : Make.MODES) {
        for (char before : Make.MODES) {
          Statewarden x = Make.chains(2, 2);
          x.addStep(0, 2, 3, 's', 0, 1);
          x.addInvariant(0, 1);
          Check.same("the first one in " + before, Make.searchAll(x, before), 'f');
          Check.same("begin in " + mode, x.begin(mode), '?');
          Check.fails("no fault", NONE, x::fault);
          Check.same("states", x.states(), 1);
          Check.same("goneOn", x.goneOn(), 0);
          Check.same("made", x.made(), 0L);
          Statewarden y = Make.chains(2, 2);
          y.addStep(0, 2, 3, 's', 0, 1);
          y.addInvariant(0, 1);
          y.begin(mode);
          Check.same("like one without another ahead of it", Look.of(x), Look.of(y));
          Statewarden z = Make.chains(2, 2);
          Make.searchAll(z, before);
          z.begin(mode);
          Statewarden w = Make.chains(2, 2);
          w.begin(mode);
          Check.same("without a fault, and with answers on runs", Look.of(z), Look.of(w));
        }
      }
    });
    Sentences.test("`mode`: the mode, 'a', 'p', 's' or 'h'", () -> {
      long[] states = {9, 5, 6, 9};
      for (int mode = 0; mode < 4; mode++) {
        Statewarden x = Make.chains(2, 2);
        Make.searchAll(x, Make.MODES[mode]);
        Check.same("states in " + Make.MODES[mode], (long) x.states(), states[mode]);
      }
    });
    Sentences.test("Returns the verdict.", () -> {
      for (char mode : Make.MODES) {
        Statewarden x = Make.chains(1, 1);
        Check.same("of a search that has begun", x.begin(mode), '?');
        Check.same("no moves at all", new Statewarden().begin(mode), '?');
        x.addInvariant(0, 0);
        Check.same("of one that has ended by a fault", x.begin(mode), 'f');
        Check.same("the verdict", x.verdict(), 'f');
      }
    });
  }

  private static void beginRefuses() {
    Sentences.test("Throws `IllegalArgumentException` if there is no such mode", () -> {
      for (char mode : new char[] {0, 'A', 'P', 'S', 'H', 'b', 'n', 'o', 'q', 'r', 't', 'g', 'i',
        '?', (char) 65535}) {
        Look.refused("the mode " + (int) mode, ARGUMENT, withoutSearch(false),
            x -> x.begin(mode));
        Look.refused("a search is on its way", ARGUMENT, () -> onItsWay('p'),
            x -> x.begin(mode));
      }
    });
    Sentences.test("Throws `UnsupportedOperationException` if the mode is 's', and an invariant is"
        + " about an own variable of a process that is alike another one", () -> {
      for (int variable = 0; variable < 9; variable++) {
        for (int odd = 0; odd <= 3; odd++) {
          int watched = variable;
          int unlike = odd;
          Look.Script script = () -> watched(watched, unlike);
          int process = (watched - 3) / 2;
          if (watched < 3 || process == unlike) {
            Check.same("an invariant of " + watched, script.make().begin('s'), '?');
          } else {
            Look.refused("an invariant of " + watched, UNSUPPORTED, script, x -> x.begin('s'));
          }
          for (char mode : new char[] {'a', 'p', 'h'}) {
            Check.same("another mode", script.make().begin(mode), '?');
          }
        }
      }
    });
    Sentences.test("a process that is alike another one", () -> {
      Statewarden x = Make.chains(1, 1);
      x.addInvariant(3, 1);
      x.addInvariant(5, 1);
      Check.same("there is no other one", x.begin('s'), '?');
      x.addProcess();
      Check.same("the other one has no steps", x.begin('s'), '?');
      Statewarden y = Make.with(1);
      y.addInvariant(7, 1);
      y.addInvariant(5, 1);
      Check.same("about those of processes that there are not", y.begin('s'), '?');
      y.addProcess();
      Look.refused("now there is one", UNSUPPORTED, () -> {
        Statewarden z = Make.with(2);
        z.addInvariant(0, 1);
        z.addInvariant(0, 1);
        z.addInvariant(0, 1);
        z.addInvariant(6, 1);
        z.begin('a');
        z.search(1);
        return z;
      }, z -> z.begin('s'));
      Check.fails("it is alike the first one", UNSUPPORTED, () -> y.begin('s'));
      Check.fails("the mode comes first", ARGUMENT, () -> y.begin('x'));
    });
    Sentences.allTested();
  }

  /** An invariant, and three processes that are alike but for one, or for none. */
  private static Statewarden watched(int variable, int odd) {
    Statewarden x = Make.chains(3, 2);
    if (odd < 3) {
      x.addStep(odd, 11, 11, 'k', 0, 0);
    }
    x.addInvariant(variable, 3);
    x.begin('a');
    x.search(3);
    return x;
  }

  private static void search() {
    Sentences.of("Promise 10: search");
    Sentences.test("Goes on from states, until as many have been gone on from", () -> {
      for (int budget = 1; budget < 27; budget++) {
        Statewarden x = Make.chains(3, 2);
        x.begin('a');
        x.search(budget);
        Check.same("goneOn", x.goneOn(), budget);
        Check.same("on its way", x.verdict(), '?');
        x.search(1);
        Check.same("one more", x.goneOn(), budget + 1);
      }
      Statewarden x = Make.longWay(0);
      x.begin('a');
      x.search(500);
      Check.same("500 at most", x.goneOn(), 500);
      x.search(499);
      Check.same("499 more", x.goneOn(), 999);
    });
    Sentences.test("or the search has ended.", () -> {
      Statewarden x = Make.chains(3, 2);
      x.begin('a');
      Check.same("all", x.search(500), 26);
      Check.same("goneOn", x.goneOn(), 27);
      Check.same("none is left", x.search(500), 0);
      Check.same("goneOn", x.goneOn(), 27);
      x.begin('a');
      x.search(26);
      Check.same("one is left", x.goneOn(), 26);
      x.search(2);
      Check.same("no more than that", x.goneOn(), 27);
      Statewarden y = Make.longWay(2);
      Make.searchAll(y, 'a');
      Check.same("with 2000 states", y.goneOn(), 1999);
      for (char mode : Make.MODES) {
        Make.searchAll(y, mode);
        int goneOn = y.goneOn();
        Check.same("it has ended in " + mode, y.search(1), 0);
        Check.same("goneOn", y.goneOn(), goneOn);
      }
    });
    Sentences.test("`budget`: the number of states, 1 to 500", () -> {
      for (int budget : new int[] {1, 2, 499, 500}) {
        Statewarden x = Make.longWay(0);
        x.begin('a');
        Check.same("the budget " + budget, x.search(budget), budget);
        Check.same("gone on from", x.goneOn(), budget);
      }
    });
    Sentences.test("Returns the number of states that are found by this.", () -> {
      Statewarden x = Make.chains(2, 2);
      x.begin('a');
      int[] found = {2, 2, 1, 1, 1, 0, 1, 0, 0, 0, 0};
      int states = 1;
      for (int turn = 0; turn < found.length; turn++) {
        Check.same("by the turn " + turn, x.search(1), found[turn]);
        states += found[turn];
        Check.same("all of them", x.states(), states);
      }
    });
  }

  private static void searchRefuses() {
    Sentences.test(NO_SEARCH, () -> {
      needsSearch(x -> x.search(1));
      needsSearch(x -> x.search(500));
      needsSearch(x -> x.search(0));
      needsSearch(x -> x.search(501));
    });
    Sentences.test("Throws `IllegalArgumentException` if the number is out of range", () -> {
      for (int budget : new int[] {Integer.MIN_VALUE, -1, 0, 501, Integer.MAX_VALUE}) {
        for (char mode : Make.MODES) {
          Look.refused("the budget " + budget, ARGUMENT, () -> onItsWay(mode),
              x -> x.search(budget));
        }
        Look.refused("also if it has ended", ARGUMENT, Promises09To18Test::broken,
            x -> x.search(budget));
      }
    });
    Sentences.allTested();
  }

  /** A search that has ended by a fault at the start. */
  private static Statewarden broken() {
    Statewarden x = Make.chains(2, 2);
    x.addInvariant(1, 0);
    x.begin('a');
    return x;
  }

  private static void verdict() {
    Sentences.of("Promise 11: verdict");
    Sentences.test("Returns the verdict.", () -> {
      Statewarden x = Make.chains(1, 1);
      x.begin('a');
      Check.same("begun", x.verdict(), '?');
      x.search(1);
      Check.same("on its way", x.verdict(), '?');
      x.search(1);
      Check.same("ended", x.verdict(), 'n');
      x.begin('a');
      Check.same("begun anew", x.verdict(), '?');
    });
    Sentences.test("Returns 'f', 'n' or '?'.", () -> {
      Check.same("with a fault", broken().verdict(), 'f');
      Check.same("without one", Make.searchAll(new Statewarden(), 'a'), 'n');
      Check.same("else", onItsWay('h').verdict(), '?');
    });
    Sentences.test(NO_SEARCH, () -> needsSearch(Statewarden::verdict));
    Sentences.allTested();
  }

  private static void states() {
    Sentences.of("Promise 12: states");
    Sentences.test("Returns the number of states that were found.", () -> {
      Statewarden x = Make.chains(2, 1);
      x.begin('a');
      Check.same("the start", x.states(), 1);
      x.search(1);
      Check.same("with those that were not gone on from", x.states(), 3);
      x.search(1);
      Check.same("the last one", x.states(), 4);
      x.search(500);
      Check.same("no other one", x.states(), 4);
    });
    Sentences.test("Returns the number of states.", () -> {
      Statewarden x = Make.ending(3);
      for (int process = 0; process < 3; process++) {
        x.addStep(process, 0, 0, 'i', 3 + 2 * process, 1);
        x.addStep(process, 0, 0, 'i', 4 + 2 * process, 1);
      }
      Make.searchAll(x, 'a');
      Check.same("2000 at most", x.states(), 2000);
      Check.same("one at least", broken().states(), 1);
    });
    Sentences.test(NO_SEARCH, () -> needsSearch(Statewarden::states));
    Sentences.allTested();
  }

  private static void goneOn() {
    Sentences.of("Promise 13: goneOn");
    Sentences.test("Returns the number of states from which the search has gone on", () -> {
      Statewarden x = Make.chains(2, 1);
      x.begin('a');
      for (int turn = 0; turn < 4; turn++) {
        Check.same("goneOn", x.goneOn(), turn);
        x.search(1);
      }
      Check.same("all of them", x.goneOn(), 4);
      x.search(1);
      Check.same("no more", x.goneOn(), 4);
    });
    Sentences.test("that with a fault", () -> {
      Statewarden x = Make.with(1);
      Make.searchAll(x, 'a');
      Check.same("stuck at the start", x.goneOn(), 1);
      x.addStep(0, 0, 1, 'k', 0, 0);
      x.addStep(0, 0, 2, 'k', 0, 0);
      Make.searchAll(x, 'a');
      Check.same("stuck behind a move", x.goneOn(), 2);
      x.addStep(0, 1, 1, 'a', 0, 0);
      Make.searchAll(x, 'a');
      Check.same("asserted behind a move", x.goneOn(), 2);
      Check.same("broken at the start, from which it has not gone on", broken().goneOn(), 0);
    });
    Sentences.test("and that from which a state with a broken invariant was reached,"
        + " included.", () -> {
      Statewarden x = Make.chains(1, 1);
      x.addStep(0, 0, 2, 's', 0, 1);
      x.addStep(0, 1, 3, 's', 0, 2);
      x.addInvariant(0, 1);
      Make.searchAll(x, 'a');
      Check.same("from the start", x.goneOn(), 1);
      Statewarden y = Make.chains(1, 1);
      y.addStep(0, 1, 3, 's', 0, 2);
      y.addInvariant(0, 2);
      Make.searchAll(y, 'a');
      Check.same("from the state 1", y.goneOn(), 2);
      Check.same("of three", y.states(), 3);
    });
    Sentences.test("Returns the number of states.", () -> {
      Statewarden x = Make.longWay(1);
      Make.searchAll(x, 'a');
      Check.same("all of 1999", x.goneOn(), 1999);
    });
    Sentences.test(NO_SEARCH, () -> needsSearch(Statewarden::goneOn));
    Sentences.allTested();
  }

  private static void codeOf() {
    Sentences.of("Promise 14: codeOf");
    Sentences.test("Returns the code of a state that was found.", () -> {
      Statewarden x = Make.chains(1, 11);
      x.begin('a');
      for (int state = 0; state < 12; state++) {
        Check.same("the state " + state, x.codeOf(state), Make.at(state, 0, 0));
        x.search(1);
      }
    });
    Sentences.test("`state`: the number of the state", () -> {
      Statewarden x = Make.longWay(2);
      Make.searchAll(x, 'a');
      Check.same("the first one", Make.location(x.codeOf(0), 1), 0);
      Check.same("the last one", Make.location(x.codeOf(1999), 1), 2);
      Check.same("its location", Make.location(x.codeOf(1999), 0), 9);
      Check.fails("none behind it", INDEX, () -> x.codeOf(2000));
    });
    Sentences.test("Returns the code.", () -> {
      Statewarden x = new Statewarden();
      for (int variable = 0; variable < 9; variable++) {
        x.setStart(variable, 3);
      }
      x.begin('a');
      Check.same("more than an int", x.codeOf(0), ((15L * 192 + 15) * 192 + 15) * 64 * 2304
          + 63 * 2304);
    });
    Sentences.test(NO_SEARCH, () -> {
      needsSearch(x -> x.codeOf(0));
      needsSearch(x -> x.codeOf(-1));
    });
    Sentences.test(NO_STATE, () -> noState(Statewarden::codeOf));
    Sentences.allTested();
  }

  private interface OfState {
    Object ask(Statewarden x, int state);
  }

  private static void noState(OfState call) {
    for (char mode : Make.MODES) {
      int states = onItsWay(mode).states();
      for (int state : new int[] {Integer.MIN_VALUE, -1, states, 2000, Integer.MAX_VALUE}) {
        Look.refused("the state " + state, INDEX, () -> onItsWay(mode), x -> call.ask(x, state));
      }
      Look.refused("behind the start", INDEX, Promises09To18Test::broken, x -> call.ask(x, 1));
    }
  }

  private static void moves() {
    Sentences.of("Promise 15: moves");
    Sentences.test("Returns the number of moves of a state that was found", () -> {
      Statewarden x = Make.chains(3, 1);
      Make.searchAll(x, 'a');
      Check.same("of the start", x.moves(0), 3);
      for (int state = 1; state < 4; state++) {
        Check.same("behind one move", x.moves(state), 2);
        Check.same("behind two moves", x.moves(3 + state), 1);
      }
      Check.same("of the last one", x.moves(7), 0);
    });
    Sentences.test("all of them, whatever the mode is.", () -> {
      for (char mode : Make.MODES) {
        Statewarden x = Make.chains(3, 1);
        x.begin(mode);
        Check.same("ahead of going on in " + mode, x.moves(0), 3);
        x.search(500);
        Check.same("behind it in " + mode, x.moves(0), 3);
        Check.same("of the next one in " + mode, x.moves(1), 2);
        Check.same("of the last one in " + mode, x.moves(x.states() - 1), 0);
      }
      Statewarden y = Make.ending(1);
      y.addStep(0, 0, 1, 'a', 0, 0);
      y.addStep(0, 0, 1, 'k', 0, 0);
      Make.searchAll(y, 'a');
      Check.same("also that which asserts what is not so", y.moves(0), 2);
    });
    Sentences.test("`state`: the number of the state", () -> {
      Statewarden x = Make.longWay(2);
      Make.searchAll(x, 'a');
      Check.same("of the first one", x.moves(0), 1);
      Check.same("of the last one", x.moves(1999), 0);
    });
    Sentences.test("Returns the number of moves.", () -> {
      Statewarden x = Make.ending(3);
      x.addChannel(0);
      for (int number = 0; number < 14; number++) {
        for (int process = 0; process < 3; process++) {
          x.addStep(process, 0, process == 1 ? 1 : 2, process == 1 ? 'w' : 'r', 0, number % 3);
        }
      }
      x.begin('a');
      Check.same("the most that there can be", x.moves(0), 14 * 28);
      Check.same("also of a state with a broken invariant", broken().moves(0), 2);
      Statewarden y = new Statewarden();
      y.begin('a');
      Check.same("none", y.moves(0), 0);
    });
    Sentences.test(NO_SEARCH, () -> {
      needsSearch(x -> x.moves(0));
      needsSearch(x -> x.moves(-1));
    });
    Sentences.test(NO_STATE, () -> noState(Statewarden::moves));
    Sentences.allTested();
  }

  private static void reached() {
    Sentences.of("Promise 16: reached");
    Sentences.test("Returns the code of the state that a move reaches.", () -> {
      Statewarden x = Make.chains(2, 2);
      for (char mode : Make.MODES) {
        x.begin(mode);
        Check.same("of the process 0 in " + mode, x.reached(0, 0), Make.at(1, 0, 0));
        Check.same("of the process 1 in " + mode, x.reached(0, 1), Make.at(0, 1, 0));
        Check.same("no state is found by this", x.states(), 1);
        Check.same("no move is made by this", x.made(), 0L);
      }
    });
    Sentences.test("`state`: the number of a state that was found", () -> {
      Statewarden x = Make.longWay(2);
      Make.searchAll(x, 'a');
      for (int state = 0; state < 1999; state += 222) {
        Check.same("from " + state, x.reached(state, 0), x.codeOf(state + 1));
      }
      Check.same("to the last one", x.reached(1998, 0), x.codeOf(1999));
    });
    Sentences.test("`move`: the number of a move of it, from 0 in their order", () -> {
      Statewarden x = Make.ending(1);
      for (int number = 0; number < 12; number++) {
        x.addStep(0, 0, 11 - number, 'k', 0, 0);
      }
      x.begin('a');
      for (int move = 0; move < 12; move++) {
        Check.same("the move " + move, x.reached(0, move), Make.at(11 - move, 0, 0));
      }
    });
    Sentences.test("Returns the code.", () -> {
      Statewarden x = Make.ending(2);
      x.addChannel(2);
      x.setStart(0, 3);
      x.addStep(0, 0, 0, 'w', 0, 0);
      x.addStep(1, 0, 11, 'i', 5, 3);
      x.begin('a');
      Check.same("with a number in the channel", Make.channels(x.reached(0, 0)), "130000");
      Check.same("with a variable", x.reached(0, 1), Check.code(
          Check.row(0, 0, 0, 11, 3, 0, 0, 0, 0), Check.row(3, 0, 0), new int[6]));
    });
    Sentences.test(NO_SEARCH, () -> {
      needsSearch(x -> x.reached(0, 0));
      needsSearch(x -> x.reached(-1, -1));
    });
    Sentences.test(NO_STATE, () -> {
      noState((x, state) -> x.reached(state, 0));
      noState((x, state) -> x.reached(state, -1));
      noState((x, state) -> x.reached(state, 392));
    });
    Sentences.test("Throws `NoSuchElementException` if there is no such move", () -> {
      for (char mode : Make.MODES) {
        for (int move : new int[] {Integer.MIN_VALUE, -1, 3, 392, Integer.MAX_VALUE}) {
          Look.refused("the move " + move, NONE, () -> onItsWay(mode), x -> x.reached(0, move));
        }
      }
      Statewarden x = Make.chains(2, 1);
      Make.searchAll(x, 'a');
      Check.same("the last move", x.reached(1, 0), Make.at(1, 1, 0));
      Check.fails("of one move", NONE, () -> x.reached(1, 1));
      Check.fails("of none", NONE, () -> x.reached(3, 0));
    });
    Sentences.allTested();
  }

  private static void variableIn() {
    Sentences.of("Promise 17: variableIn");
    Sentences.test("Returns what a variable is in a state that was found.", () -> {
      for (char mode : Make.MODES) {
        Statewarden x = Make.ending(1);
        x.setStart(0, 2);
        x.addStep(0, 0, 1, 'i', 0, 3);
        x.addStep(0, 1, 2, 's', 4, 3);
        Make.searchAll(x, mode);
        Check.same("at the start", x.variableIn(0, 0), 2);
        Check.same("behind a move", x.variableIn(1, 0), 1);
        Check.same("not yet", x.variableIn(1, 4), 0);
        Check.same("behind two moves", x.variableIn(2, 4), 3);
      }
    });
    Sentences.test("`state`: the number of the state", () -> {
      Statewarden x = Make.longWay(2);
      Make.searchAll(x, 'a');
      Check.same("in the first one", x.variableIn(0, 2), 1);
      Check.same("in the last one", x.variableIn(1999, 2), 0);
    });
    Sentences.test("`variable`: the variable, 0 to 8", () -> {
      for (int processes = 0; processes <= 3; processes++) {
        Statewarden x = Make.with(processes);
        for (int variable = 0; variable <= 8; variable++) {
          x.setStart(variable, Make.STARTS[variable]);
        }
        x.begin('a');
        for (int variable = 0; variable <= 8; variable++) {
          Check.same("the variable " + variable, x.variableIn(0, variable), Make.STARTS[variable]);
        }
      }
    });
    Sentences.test("Returns the number.", () -> {
      for (int number = 0; number <= 3; number++) {
        Statewarden x = Make.with(3);
        x.setStart(8, number);
        x.begin('a');
        Check.same("the number", x.variableIn(0, 8), number);
      }
    });
    Sentences.test(NO_SEARCH, () -> {
      needsSearch(x -> x.variableIn(0, 0));
      needsSearch(x -> x.variableIn(-1, 9));
    });
    Sentences.test(NO_STATE, () -> {
      noState((x, state) -> x.variableIn(state, 0));
      noState((x, state) -> x.variableIn(state, 9));
    });
    Sentences.test("Throws `IllegalArgumentException` if there is no such variable", () -> {
      for (char mode : Make.MODES) {
        for (int variable : new int[] {Integer.MIN_VALUE, -1, 9, Integer.MAX_VALUE}) {
          Look.refused("the variable " + variable, ARGUMENT, () -> onItsWay(mode),
              x -> x.variableIn(0, variable));
        }
      }
    });
    Sentences.allTested();
  }

  private static void made() {
    Sentences.of("Promise 18: made");
    Sentences.test("Returns the number of moves that the search has made.", () -> {
      Statewarden x = Make.chains(2, 1);
      x.addStep(0, 0, 0, 'k', 0, 0);
      x.begin('a');
      long[] due = {0, 3, 4, 6, 6, 6};
      for (long moves : due) {
        Check.same("made", x.made(), moves);
        x.search(1);
      }
      x.begin('p');
      Check.same("begun anew", x.made(), 0L);
      x.search(1);
      Check.same("those of one process alone", x.made(), 1L);
    });
    Sentences.test("Returns the number of moves.", () -> {
      Statewarden x = Make.ending(1);
      x.addStep(0, 0, 1, 'k', 0, 0);
      x.addStep(0, 0, 2, 'a', 0, 0);
      x.addStep(0, 0, 3, 'k', 0, 0);
      Make.searchAll(x, 'a');
      Check.same("not that which asserts what is not so", x.made(), 1L);
      x.setStart(0, 1);
      Make.searchAll(x, 'a');
      Check.same("but that which asserts what is so", x.made(), 3L);
      Check.same("none", broken().made(), 0L);
    });
    Sentences.test(NO_SEARCH, () -> needsSearch(Statewarden::made));
    Sentences.allTested();
  }
}
