import java.util.NoSuchElementException;

/** The terms of faults, the search, its modes and verdicts, runs and exceptions, in sentences. */
public final class TermsOfSearchTest {
  private static final Class<IllegalArgumentException> ARGUMENT = IllegalArgumentException.class;
  private static final Class<IllegalStateException> STATE = IllegalStateException.class;
  private static final Class<IndexOutOfBoundsException> INDEX = IndexOutOfBoundsException.class;
  private static final Class<NoSuchElementException> NONE = NoSuchElementException.class;

  private TermsOfSearchTest() {}

  public static void main(String[] args) {
    Sentences.ofTerm("Faults");
    faults();
    Sentences.allTested();
    Sentences.ofTerm("The search");
    beginning();
    goingOn();
    whenFaultsAreFound();
    ending();
    twoThousandStates();
    Sentences.allTested();
    Sentences.ofTerm("Modes");
    modeA();
    modeP();
    whatModePNeeds();
    whatIsAlike();
    modeS();
    modeH();
    Sentences.allTested();
    Sentences.ofTerm("Verdicts");
    verdicts();
    Sentences.allTested();
    Sentences.ofTerm("Runs");
    runs();
    fairRuns();
    whoCanDoAStep();
    Sentences.allTested();
    Sentences.ofTerm("Exceptions");
    exceptions();
    Sentences.allTested();
    Check.end();
  }

  private static void counts(String what, Statewarden x, int states, int goneOn, long made) {
    Check.same(what + ", states", x.states(), states);
    Check.same(what + ", goneOn", x.goneOn(), goneOn);
    Check.same(what + ", made", x.made(), made);
  }

  // ---- Faults

  private static void faults() {
    Sentences.test("'i', an invariant is broken: a variable is a number that it must never"
        + " be", () -> {
      for (int variable = 0; variable < 9; variable++) {
        for (int number = 0; number < 4; number++) {
          Statewarden x = Make.ending(0);
          x.setStart(variable, number);
          x.addInvariant(variable, (number + 1) % 4);
          x.addInvariant((variable + 1) % 9, 1);
          Check.same("it may be another one", x.begin('a'), '?');
          x.addInvariant(variable, number);
          Check.same(variable + " is " + number, x.begin('a'), 'f');
          Check.same("the fault", x.fault(), 'i');
        }
      }
    });
    Sentences.test("'a', a move has a step that asserts what is not so", () -> {
      Statewarden x = Make.ending(2);
      x.addStep(1, 0, 0, 'a', 1, 2);
      Check.same("it is so", Make.searchAll(x, 'a'), 'n');
      x.setStart(1, 2);
      Check.same("it is not so", Make.searchAll(x, 'a'), 'f');
      Check.same("the fault", x.fault(), 'a');
      x.setMarks(0, 0, true, true);
      x.addStep(0, 0, 0, 'k', 0, 0);
      Check.same("it is no step of a move", Make.searchAll(x, 'a'), 'n');
    });
    Sentences.test("'d', a state without moves in which some process is at a location that is no"
        + " end",
        () -> {
          for (int ends = 0; ends < 8; ends++) {
            Statewarden x = Make.with(3);
            for (int process = 0; process < 3; process++) {
              x.setMarks(process, 0, (ends >> process & 1) == 1, false);
            }
            Check.same("ends of " + ends, Make.searchAll(x, 'a'), ends == 7 ? 'n' : 'f');
            if (ends < 7) {
              Check.same("the fault", x.fault(), 'd');
            }
            x.addStep(1, 0, 0, 'k', 0, 0);
            Check.same("with a move", Make.searchAll(x, 'a'), 'n');
          }
          Check.same("no process is nowhere", Make.searchAll(Make.with(0), 'a'), 'n');
        });
  }

  // ---- The search

  private static void beginning() {
    Sentences.test("A search has a mode, and begins with the state at the start, which is found"
        + " then, with the number 0.", () -> {
      for (char mode : Make.MODES) {
        Statewarden x = Make.ending(1);
        x.addChannel(1);
        x.setStart(4, 3);
        x.addStep(0, 0, 5, 'w', 0, 4);
        long start = Check.code(Check.row(0, 0, 3, 0, 0, 0, 0, 0, 0), new int[3], new int[6]);
        for (int turn = 0; turn < 2; turn++) {
          x.begin(mode);
          counts("begun in " + mode, x, 1, 0, 0);
          Check.same("the state 0", x.codeOf(0), start);
          Check.fails("no state 1", INDEX, () -> x.codeOf(1));
          x.search(500);
          Check.same("then there are more", x.states(), 2);
          Check.same("the state 0 stays", x.codeOf(0), start);
        }
      }
    });
  }

  private static void goingOn() {
    Sentences.test("States are gone on from in the order in which they were found", () -> {
      Statewarden x = Make.ending(1);
      x.addStep(0, 0, 9, 'k', 0, 0);
      x.addStep(0, 0, 2, 'k', 0, 0);
      x.addStep(0, 2, 3, 'k', 0, 0);
      x.addStep(0, 9, 8, 'k', 0, 0);
      x.addStep(0, 9, 7, 'k', 0, 0);
      x.begin('a');
      int[] found = {3, 5, 6};
      for (int turn = 0; turn < 3; turn++) {
        x.search(1);
        Check.same("found by the turn " + turn, x.states(), found[turn]);
      }
      int[] due = {0, 9, 2, 8, 7, 3};
      for (int state = 0; state < 6; state++) {
        Check.same("the state " + state, x.codeOf(state), Make.at(due[state], 0, 0));
      }
    });
    Sentences.test("all of their moves are made, in their order", () -> {
      Statewarden x = Make.ending(3);
      for (int process = 2; process >= 0; process--) {
        x.addStep(process, 0, 5, 'k', 0, 0);
        x.addStep(process, 0, 4, 'k', 0, 0);
      }
      x.begin('a');
      x.search(1);
      Check.same("six moves", x.made(), 6L);
      for (int move = 0; move < 6; move++) {
        Check.same("the state of the move " + move, x.codeOf(1 + move), x.reached(0, move));
        Check.same("of its process", Make.location(x.codeOf(1 + move), move / 2), 5 - move % 2);
      }
    });
    Sentences.test("each state that is reached and was not found so far is found then, under the"
        + " next number", () -> {
      Statewarden x = Make.ending(2);
      x.addStep(0, 0, 0, 'k', 0, 0);
      x.addStep(0, 0, 1, 'k', 0, 0);
      x.addStep(0, 0, 1, 's', 0, 0);
      x.addStep(1, 0, 1, 'k', 0, 0);
      Make.searchAll(x, 'a');
      counts("each one once", x, 4, 4, 4 + 1 + 3);
      Check.same("the first", x.codeOf(1), Make.at(1, 0, 0));
      Check.same("the second", x.codeOf(2), Make.at(0, 1, 0));
      Check.same("the third", x.codeOf(3), Make.at(1, 1, 0));
    });
    Sentences.test("with the state and the move by which it was", () -> {
      Statewarden x = Make.with(1);
      x.addStep(0, 0, 1, 'k', 0, 0);
      x.addStep(0, 0, 2, 'k', 0, 0);
      x.addStep(0, 2, 3, 'k', 0, 0);
      x.addStep(0, 1, 3, 'k', 0, 0);
      x.addStep(0, 1, 3, 'k', 0, 0);
      Check.same("stuck at 3", Make.searchAll(x, 'a'), 'f');
      Check.same("by the state that was gone on from first", x.traceStep(0), 0);
      Check.same("by the move that was made first", x.traceStep(1), 3);
    });
  }

  private static void whenFaultsAreFound() {
    Sentences.test("When a state is found, invariants are looked at", () -> {
      Statewarden x = Make.with(1);
      x.addStep(0, 0, 1, 's', 0, 2);
      x.addInvariant(0, 2);
      Check.same("not yet", x.begin('a'), '?');
      Check.same("found", x.search(1), 1);
      Check.same("at once", x.verdict(), 'f');
      Check.same("also if it is stuck", x.fault(), 'i');
      counts("found", x, 2, 1, 1);
      x.addInvariant(0, 0);
      Check.same("also the start", x.begin('a'), 'f');
      counts("found", x, 1, 0, 0);
    });
    Sentences.test("when it is gone on from, first 'd'", () -> {
      Statewarden x = Make.with(1);
      x.addStep(0, 0, 1, 'k', 0, 0);
      x.begin('a');
      x.search(1);
      Check.same("found alone", x.verdict(), '?');
      Check.same("it counts as found", x.states(), 2);
      x.search(1);
      Check.same("gone on from", x.verdict(), 'f');
      Check.same("the fault", x.fault(), 'd');
      counts("stuck", x, 2, 2, 1);
      Check.same("the start too", Make.with(1).begin('a'), '?');
    });
    Sentences.test("then 'a' for each move ahead of making it", () -> {
      Statewarden x = Make.ending(1);
      x.addStep(0, 0, 1, 'k', 0, 0);
      x.addStep(0, 0, 2, 'a', 0, 0);
      x.addStep(0, 0, 3, 's', 1, 1);
      x.begin('a');
      x.search(1);
      Check.same("the fault", x.fault(), 'a');
      counts("one move was made", x, 2, 1, 1);
      x.addStep(0, 2, 2, 'k', 0, 0);
      x.addInvariant(1, 1);
      x.begin('a');
      x.search(1);
      Check.same("the fault of the earlier move", x.fault(), 'a');
      Statewarden y = Make.ending(1);
      y.addStep(0, 0, 3, 's', 1, 1);
      y.addStep(0, 0, 2, 'a', 0, 0);
      y.addInvariant(1, 1);
      y.begin('a');
      y.search(1);
      Check.same("the state of the earlier move", y.fault(), 'i');
    });
    Sentences.test("by the state that is gone on from", () -> {
      Statewarden x = Make.ending(2);
      x.addStep(0, 0, 1, 's', 0, 1);
      x.addStep(1, 0, 1, 'a', 0, 1);
      x.begin('a');
      x.search(1);
      Check.same("not by what the other move reaches", x.verdict(), '?');
      x.search(1);
      Check.same("but by that when it is gone on from", x.fault(), 'a');
      Check.same("behind one move", x.traceLength(), 2);
    });
  }

  private static void ending() {
    Sentences.test("with the first fault, the search has ended at once", () -> {
      Statewarden x = Make.ending(1);
      x.addStep(0, 0, 1, 's', 0, 1);
      x.addStep(0, 0, 2, 'k', 0, 0);
      x.addStep(0, 0, 3, 'a', 0, 0);
      x.addInvariant(0, 1);
      x.begin('a');
      Check.same("the first move", x.search(500), 1);
      counts("the others are not made", x, 2, 1, 1);
      Check.same("it has ended", x.search(500), 0);
      counts("nothing more", x, 2, 1, 1);
      Check.same("the fault stays", x.fault(), 'i');
    });
    Sentences.test("It has also ended when there is no state left from which it has not gone"
        + " on", () -> {
      Statewarden x = Make.chains(1, 2);
      x.begin('a');
      x.search(2);
      Check.same("one is left", x.verdict(), '?');
      x.search(1);
      Check.same("none is left", x.verdict(), 'n');
      Check.same("nothing more", x.search(500), 0);
      counts("nothing more", x, 3, 3, 2);
    });
  }

  /** A long way, at whose last state a second process has moves at last. */
  private static Statewarden fan(int ahead, int moves) {
    Statewarden x = Make.longWay(ahead);
    for (int number = 0; number < moves; number++) {
      x.addStep(1, ahead, 11 - number, '=', 2, 0);
    }
    return x;
  }

  private static void twoThousandStates() {
    Sentences.test("or when 2000 states have been found, at once, also in the middle of the moves"
        + " of a state, from which it has gone on then", () -> {
      Statewarden x = fan(0, 5);
      Check.same("in the middle", Make.searchAll(x, 'a'), '?');
      counts("two of five moves", x, 2000, 1998, 1999);
      Check.same("all of them are told", x.moves(1997), 5);
      Check.same("it has ended", x.search(500), 0);
      x = fan(1, 5);
      Make.searchAll(x, 'a');
      counts("one of five moves", x, 2000, 1999, 1999);
      x = fan(1, 1);
      Make.searchAll(x, 'a');
      counts("by the last move", x, 2000, 1999, 1999);
      x = fan(2, 0);
      Make.searchAll(x, 'a');
      counts("the last one is not gone on from", x, 2000, 1999, 1999);
      x = fan(0, 1);
      Make.searchAll(x, 'a');
      counts("one less", x, 1999, 1999, 1998);
    });
    Sentences.test("at once", () -> {
      for (int order = 0; order < 2; order++) {
        // The assertion holds in all states of the way but the last one.
        Statewarden x = order == 0 ? Make.longWay(1) : fan(1, 1);
        x.addStep(1, 1, 1, 'a', 2, 0);
        x.addStep(1, 1, 2, '=', 2, 0);
        Check.same("an assertion at the end", Make.searchAll(x, 'a'), order == 0 ? 'f' : '?');
        Check.same("states", x.states(), order == 0 ? 1999 : 2000);
        Check.same("gone on from", x.goneOn(), 1999);
      }
      Statewarden y = fan(2, 0);
      y.setMarks(1, 2, false, false);
      Check.same("the last one is stuck", Make.searchAll(y, 'a'), '?');
      Statewarden z = fan(1, 0);
      z.setMarks(1, 1, false, false);
      Check.same("one less, and stuck", Make.searchAll(z, 'a'), 'f');
    });
    Sentences.test("when 2000 states have been found", () -> {
      // The second process breaks the invariant by the very move that finds the state 1999.
      Statewarden x = fan(1, 1);
      x.addInvariant(5, 3);
      Check.same("not broken", Make.searchAll(x, 'a'), '?');
      Statewarden y = Make.longWay(0);
      y.addStep(1, 0, 1, '=', 2, 0);
      y.addStep(1, 1, 2, 's', 5, 3);
      y.addInvariant(5, 3);
      Check.same("broken by the last state", Make.searchAll(y, 'a'), 'f');
      counts("it was looked at", y, 2000, 1999, 1999);
      Check.same("the trace to it", y.traceLength(), 1999);
    });
  }

  // ---- Modes

  private static void modeA() {
    Sentences.test("In 'a', all is as told.", () -> {
      Statewarden x = Make.chains(3, 2);
      Check.same("the verdict", Make.searchAll(x, 'a'), 'n');
      counts("alike ones, and moves that nothing sees", x, 27, 27, 54);
    });
  }

  private static void modeP() {
    Sentences.test("In 'p', a state is gone on from by the moves of one process alone", () -> {
      Statewarden x = Make.chains(3, 2);
      x.addStep(0, 0, 3, 'k', 0, 0);
      x.begin('p');
      x.search(1);
      counts("the two moves of the process 0", x, 3, 1, 2);
      Check.same("its first one", x.codeOf(1), Make.at(1, 0, 0));
      Check.same("its second one", x.codeOf(2), Make.at(3, 0, 0));
      Check.same("moves are told in full", x.moves(0), 4);
    });
    Sentences.test("if there is such a process", () -> {
      Statewarden x = Make.ending(2);
      x.addStep(0, 0, 1, 's', 0, 1);
      x.addStep(1, 0, 1, 's', 1, 1);
      Make.searchAll(x, 'p');
      counts("there is none, so all moves are made", x, 4, 4, 4);
    });
    Sentences.test("the lowest-numbered one of these", () -> {
      for (int first = 0; first < 3; first++) {
        Statewarden x = Make.ending(3);
        for (int process = 2; process >= 0; process--) {
          x.addStep(process, 0, 1, process < first ? 's' : 'k', 0, 1);
        }
        x.begin('p');
        Check.same("one move", x.search(1), 1);
        Check.same("of the process " + first, Make.location(x.codeOf(1), first), 1);
      }
    });
    Sentences.test("it leads moves of the state", () -> {
      Statewarden x = Make.ending(2);
      x.addStep(0, 0, 1, '=', 3, 1);
      x.addStep(1, 0, 1, 'k', 0, 0);
      x.begin('p');
      Check.same("the process 0 leads none, the process 1 one", x.search(1), 1);
      Statewarden y = Make.ending(2);
      y.addStep(0, 0, 1, 'k', 0, 0);
      y.addStep(1, 0, 1, 's', 0, 1);
      y.addStep(1, 0, 2, 's', 0, 1);
      y.setMarks(1, 0, true, true);
      y.begin('p');
      Check.same("the quiet one alone leads moves", y.search(1), 2);
      Statewarden z = Make.ending(2);
      z.addStep(0, 1, 0, 'k', 0, 0);
      z.addStep(1, 0, 1, 's', 0, 1);
      z.begin('p');
      Check.same("no steps from its location", z.search(1), 1);
    });
  }

  /** The process 0 has two steps at the location 0, one of them a 'k'; does it go alone? */
  private static void alone(String what, boolean due, char kind, int a, int b) {
    for (int order = 0; order < 2; order++) {
      Statewarden x = Make.ending(2);
      x.addChannel(2);
      x.addStep(0, 0, 1 + order, order == 0 ? 'k' : kind, order == 0 ? 9 : a, order == 0 ? 9 : b);
      x.addStep(0, 0, 2 - order, order == 0 ? kind : 'k', order == 0 ? a : 9, order == 0 ? b : 9);
      x.addStep(0, 5, 5, 'w', 0, 0);
      x.addStep(1, 0, 1, 's', 0, 1);
      x.begin('p');
      x.search(1);
      Check.same(what, x.made() == x.moves(0), !due);
      Check.same(what + ", its own moves", x.made() == x.moves(0) - 1, due);
    }
  }

  private static void whatModePNeeds() {
    Sentences.test("all of its steps from its location are of the kinds 'k', 's', 'i', '=' and '!'",
        () -> {
          alone("'k'", true, 'k', 0, 0);
          alone("'s'", true, 's', 3, 1);
          alone("'i'", true, 'i', 4, 1);
          alone("'='", true, '=', 3, 0);
          alone("'!'", true, '!', 3, 1);
          alone("'='  that can't be done", true, '=', 3, 1);
          alone("'a'", false, 'a', 3, 1);
          alone("'w'", false, 'w', 0, 3);
          alone("'r' that can't be done", false, 'r', 0, 3);
        });
    Sentences.test("and use own variables alone", () -> {
      for (int variable = 0; variable < 5; variable++) {
        boolean isOwn = variable > 2;
        alone("'s' of " + variable, isOwn, 's', variable, 1);
        alone("'i' of " + variable, isOwn, 'i', variable, 1);
        alone("'=' of " + variable, isOwn, '=', variable, 0);
        alone("'!' of " + variable, isOwn, '!', variable, 1);
        alone("'!' that can't be done of " + variable, isOwn, '!', variable, 0);
      }
    });
    Sentences.test("no invariant is about an own variable of it", () -> {
      for (int variable = 0; variable < 9; variable++) {
        Statewarden x = Make.ending(2);
        x.addStep(0, 0, 1, 'k', 0, 0);
        x.addStep(1, 0, 1, 's', 0, 1);
        for (int count = 0; count < 3; count++) {
          x.addInvariant(variable == 2 ? 1 : 2, 3);
        }
        x.addInvariant(variable, 3);
        x.begin('p');
        boolean isOwn = variable == 3 || variable == 4;
        Check.same("an invariant about " + variable, x.search(1), isOwn ? 2 : 1);
      }
    });
    Sentences.test("no state that these moves reach has been found so far", () -> {
      Statewarden x = Make.ending(2);
      x.addStep(0, 0, 1, 'k', 0, 0);
      x.addStep(0, 0, 0, 'k', 0, 0);
      x.addStep(1, 0, 1, 's', 0, 1);
      x.begin('p');
      x.search(1);
      counts("the last of its moves leads back", x, 3, 1, 3);
      Statewarden y = Make.ending(2);
      y.addStep(0, 0, 0, 'k', 0, 0);
      y.addStep(0, 0, 1, 'k', 0, 0);
      y.addStep(1, 0, 1, 's', 0, 1);
      y.begin('p');
      y.search(1);
      counts("the first of its moves leads back", y, 3, 1, 3);
      Statewarden z = Make.ending(2);
      z.addStep(0, 0, 1, 'k', 0, 0);
      z.addStep(0, 1, 0, 'k', 0, 0);
      z.addStep(1, 0, 1, 's', 0, 1);
      z.begin('p');
      Check.same("both states are new at first", z.search(1), 1);
      z.search(1);
      counts("the second one leads back to the first", z, 3, 2, 3);
      Statewarden w = Make.ending(2);
      w.addStep(0, 0, 1, 'k', 0, 0);
      w.addStep(0, 0, 1, 'k', 0, 0);
      w.addStep(1, 0, 1, 's', 0, 1);
      w.begin('p');
      w.search(1);
      counts("two moves to one that is new", w, 2, 1, 2);
    });
  }

  /** Two processes with one step each; the numbers are of the process 0 and of the process 1. */
  private static void alike(String what, boolean due, char kind, int a, int b, int c, int d) {
    Statewarden x = Make.with(2);
    x.addChannel(1);
    x.addChannel(1);
    x.addStep(0, 2, 3, kind, a, b);
    x.addStep(1, 2, 3, kind, c, d);
    Check.same(what, x.areAlike(0, 1), due);
    Check.same(what, x.areAlike(1, 0), due);
  }

  private static void whatIsAlike() {
    Sentences.test("two processes are alike if they have the same steps under the same"
        + " numbers", () -> {
      Statewarden x = Make.with(2);
      Check.same("no steps", x.areAlike(0, 1), true);
      x.addStep(0, 0, 11, '=', 0, 1);
      Check.same("one step and none", x.areAlike(0, 1), false);
      Check.same("none and one step", x.areAlike(1, 0), false);
      x.addStep(1, 0, 11, '=', 0, 1);
      Check.same("the same step", x.areAlike(0, 1), true);
      for (int number = 1; number < 13; number++) {
        x.addStep(0, number % 12, 0, 'i', number % 3, number % 4);
        x.addStep(1, number % 12, 0, 'i', number % 3, number % 4);
      }
      x.addStep(0, 5, 6, 'k', 0, 0);
      Check.same("14 and 13", x.areAlike(1, 0), false);
      x.addStep(1, 5, 7, 'k', 0, 0);
      Check.same("the last of 14 is another one", x.areAlike(0, 1), false);
      Statewarden y = Make.with(2);
      y.addStep(0, 0, 1, 'k', 0, 0);
      y.addStep(0, 1, 0, 'k', 0, 0);
      y.addStep(1, 1, 0, 'k', 0, 0);
      y.addStep(1, 0, 1, 'k', 0, 0);
      Check.same("under other numbers", y.areAlike(0, 1), false);
      alike("another shared variable", false, 's', 0, 1, 1, 1);
      alike("another number", false, 's', 0, 1, 0, 2);
      alike("another channel", false, 'w', 0, 1, 1, 1);
      alike("another shared variable to send", false, 'w', 0, 1, 0, 2);
    });
    Sentences.test("their own variables taken for one another", () -> {
      for (char kind : new char[] {'s', 'i', '=', '!', 'a'}) {
        alike(kind + " of the first own ones", true, kind, 3, 2, 5, 2);
        alike(kind + " of the second own ones", true, kind, 4, 3, 6, 3);
        alike(kind + " of the first and the second one", false, kind, 3, 2, 6, 2);
        alike(kind + " of a shared and an own one", false, kind, 0, 2, 5, 2);
        alike(kind + " with other numbers", false, kind, 3, 2, 5, 1);
      }
      for (char kind : new char[] {'w', 'r'}) {
        alike(kind + " of the first own ones", true, kind, 1, 3, 1, 5);
        alike(kind + " of the second own ones", true, kind, 1, 4, 1, 6);
        alike(kind + " of the first and the second one", false, kind, 1, 4, 1, 5);
        alike(kind + " of an own and a shared one", false, kind, 1, 3, 1, 0);
      }
    });
    Sentences.test("where the numbers of 'k' do not matter", () -> {
      alike("any numbers", true, 'k', 3, Integer.MIN_VALUE, 77, 1);
      alike("the numbers of own ones", true, 'k', 3, 4, 3, 4);
    });
    Sentences.test("the same marks", () -> {
      for (int location = 0; location < 12; location++) {
        for (int mark = 1; mark < 4; mark++) {
          Statewarden x = Make.with(2);
          x.setMarks(0, location, mark % 2 == 1, mark > 1);
          Check.same("marks of one alone", x.areAlike(0, 1), false);
          x.setMarks(1, location, mark % 2 == 1, mark > 1);
          Check.same("the same marks", x.areAlike(0, 1), true);
          x.setMarks(1, location, mark % 2 == 0, mark > 1);
          Check.same("other marks", x.areAlike(0, 1), false);
        }
      }
    });
    Sentences.test("and the same starts of own variables", () -> {
      for (int own = 3; own < 5; own++) {
        Statewarden x = Make.with(2);
        x.setStart(own, 2);
        Check.same("another start", x.areAlike(0, 1), false);
        x.setStart(own + 2, 2);
        Check.same("the same start", x.areAlike(0, 1), true);
        x.setStart(own + 2, 3);
        Check.same("another start", x.areAlike(1, 0), false);
      }
    });
  }

  private static void modeS() {
    Sentences.test("instead of a state, that one is found which has the least code of all that come"
        + " from it by exchanging locations and own variables among processes that are"
        + " alike", () -> {
      Statewarden x = Make.chains(3, 1);
      Make.searchAll(x, 's');
      counts("how many are at 1", x, 4, 4, 3 + 2 + 1);
      Check.same("one", x.codeOf(1), Make.at(0, 0, 1));
      Check.same("two", x.codeOf(2), Make.at(0, 1, 1));
      Check.same("three", x.codeOf(3), Make.at(1, 1, 1));
      x.setMarks(1, 5, false, false);
      Make.searchAll(x, 's');
      Check.same("0 and 2 alone", x.states(), 6);
      Check.same("past 1", x.codeOf(1), Make.at(0, 0, 1));
      Check.same("1 stays", x.codeOf(2), Make.at(0, 1, 0));
      x.setMarks(2, 6, false, false);
      Make.searchAll(x, 's');
      Check.same("none is alike another one", x.states(), 8);
      Statewarden y = Make.ending(2);
      y.addStep(0, 0, 1, 's', 4, 2);
      y.addStep(1, 0, 1, 's', 6, 2);
      Make.searchAll(y, 's');
      Check.same("own variables go with locations", y.codeOf(1),
          Check.code(Check.row(0, 0, 0, 1, 0, 2, 0, 0, 0), new int[3], new int[6]));
    });
    Sentences.test("moves are those of the state that was found", () -> {
      Statewarden x = Make.chains(2, 2);
      x.begin('s');
      x.search(1);
      Check.same("the state 1", x.codeOf(1), Make.at(0, 1, 0));
      Check.same("its first move is of the process at 0", x.reached(1, 0), Make.at(1, 1, 0));
      Check.same("its second one is of the process at 1", x.reached(1, 1), Make.at(0, 2, 0));
      x.search(1);
      Check.same("found by the first one", x.codeOf(2), Make.at(1, 1, 0));
      Check.same("found by the second one", x.codeOf(3), Make.at(0, 2, 0));
    });
  }

  /** One way, on which the process 0 comes to states with these codes. */
  private static Statewarden remainders(int lastLocation) {
    Statewarden x = Make.ending(1);
    x.addStep(0, 0, 1, 's', 3, 1);
    x.addStep(0, 1, 2, 's', 4, 3);
    x.addStep(0, 2, lastLocation, 's', 0, 2);
    return x;
  }

  private static void modeH() {
    Sentences.test("In 'h', a state counts as found so far if a state with the same remainder of"
        + " its code, divided by 509, was found.", () -> {
      Statewarden x = remainders(7);
      Check.same("in 'a'", Make.searchAll(x, 'a'), 'n');
      counts("in 'a'", x, 4, 4, 3);
      Check.same("the remainder of the last one", x.codeOf(3) % 509, x.codeOf(0) % 509);
      Make.searchAll(x, 'h');
      counts("the last one counts as found", x, 3, 3, 3);
      x = remainders(8);
      Make.searchAll(x, 'h');
      counts("it has another remainder", x, 4, 4, 3);
      Statewarden y = Make.ending(3);
      for (int process = 0; process < 3; process++) {
        y.addStep(process, 0, 0, 'i', 3 + 2 * process, 1);
        y.addStep(process, 0, 0, 'i', 4 + 2 * process, 1);
      }
      Check.same("4096 states in all, in 'a'", Make.searchAll(y, 'a'), '?');
      Make.searchAll(y, 'h');
      Check.same("509 remainders at most", y.states() <= 509, true);
      Check.same("it has ended", y.goneOn(), y.states());
    });
  }

  // ---- Verdicts

  private static void verdicts() {
    Sentences.test("'f' a fault was found.", () -> {
      for (char mode : Make.MODES) {
        Check.same("stuck in " + mode, Make.searchAll(Make.with(1), mode), 'f');
        Statewarden x = Make.longWay(1);
        x.addStep(1, 1, 2, '=', 2, 0);
        x.addStep(1, 0, 2, 'a', 2, 1);
        Check.same("asserted in " + mode, Make.searchAll(x, mode), 'f');
      }
    });
    Sentences.test("'n' none, and the search has left nothing out", () -> {
      for (char mode : Make.MODES) {
        if (mode != 'h') {
          Check.same("in " + mode, Make.searchAll(Make.chains(2, 2), mode), 'n');
        }
      }
    });
    Sentences.test("its mode is not 'h'", () -> {
      Statewarden x = new Statewarden();
      Check.same("begun", x.begin('h'), '?');
      x.search(1);
      Check.same("it has ended in 'h'", x.verdict(), '?');
      Check.same("nothing is left", x.search(500), 0);
    });
    Sentences.test("it has ended", () -> {
      for (char mode : new char[] {'a', 'p', 's'}) {
        Statewarden x = new Statewarden();
        Check.same("begun in " + mode, x.begin(mode), '?');
        x.search(1);
        Check.same("ended in " + mode, x.verdict(), 'n');
        Statewarden y = Make.chains(1, 3);
        y.begin(mode);
        y.search(3);
        Check.same("all are found in " + mode, y.states(), 4);
        Check.same("but one is not gone on from", y.verdict(), '?');
      }
    });
    Sentences.test("and fewer than 2000 states were found", () -> {
      for (char mode : new char[] {'a', 'p', 's'}) {
        Statewarden x = Make.longWay(1);
        Check.same("1999 states in " + mode, Make.searchAll(x, mode), 'n');
        Check.same("states", x.states(), 1999);
        Statewarden y = Make.longWay(2);
        Check.same("2000 states in " + mode, Make.searchAll(y, mode), '?');
        Check.same("states", y.states(), 2000);
      }
    });
    Sentences.test("'?' otherwise.", () -> {
      for (char mode : Make.MODES) {
        Statewarden x = Make.chains(2, 2);
        Check.same("begun in " + mode, x.begin(mode), '?');
        x.search(1);
        Check.same("on the way in " + mode, x.verdict(), '?');
      }
    });
  }

  // ---- Runs

  private static void answers(Statewarden x, int variable, int number, String due) {
    Check.same("the verdict", Make.searchAll(x, 'a'), 'n');
    String what = variable + " is " + number + ": recurs, recursByTaking, comes, fair ones";
    StringBuilder got = new StringBuilder();
    got.append(x.recurs(variable, number, false) ? 'y' : 'n');
    got.append(x.recursByTaking(variable, number) ? 'y' : 'n');
    got.append(x.comes(variable, number, false) ? 'y' : 'n');
    got.append(x.recurs(variable, number, true) ? 'y' : 'n');
    got.append(x.comes(variable, number, true) ? 'y' : 'n');
    Check.same(what, got.toString(), due);
  }

  private static void runs() {
    Sentences.test("A run begins at the start and makes moves for ever", () -> {
      Statewarden x = Make.ending(1);
      x.setStart(0, 3);
      x.addStep(0, 0, 1, 's', 0, 1);
      x.addStep(0, 1, 2, 's', 0, 2);
      x.addStep(0, 2, 1, 's', 0, 1);
      answers(x, 0, 3, "nnyny");
      answers(x, 0, 1, "yyyyy");
      answers(x, 0, 2, "yyyyy");
      answers(x, 0, 0, "nnnnn");
    });
    Sentences.test("in a state without moves, it stays for ever", () -> {
      Statewarden x = Make.chains(1, 1);
      x.addStep(0, 1, 2, 's', 0, 1);
      answers(x, 0, 1, "yyyyy");
      answers(x, 0, 0, "nnyny");
      answers(x, 1, 0, "yyyyy");
      Statewarden y = Make.chains(1, 1);
      y.addStep(0, 0, 2, 's', 0, 1);
      y.addStep(0, 2, 2, 'k', 0, 0);
      answers(y, 0, 1, "nnnnn");
      answers(new Statewarden(), 8, 0, "yyyyy");
      answers(new Statewarden(), 8, 1, "nnnnn");
    });
  }

  private static void fairRuns() {
    Sentences.test("A run is fair if there is no process that can do a step in all states from some"
        + " state on, and does none from there on", () -> {
      Statewarden x = Make.ending(2);
      x.addStep(0, 0, 0, 'k', 0, 0);
      x.addStep(1, 0, 1, 's', 0, 1);
      answers(x, 0, 1, "nnnyy");
      Statewarden y = Make.ending(3);
      y.addStep(0, 0, 0, 'k', 0, 0);
      y.addStep(1, 0, 0, 'k', 0, 0);
      y.addStep(1, 0, 1, 's', 0, 1);
      answers(y, 0, 1, "nnnnn");
    });
    Sentences.test("in all states", () -> {
      Statewarden x = Make.ending(2);
      x.addStep(0, 0, 1, 's', 1, 1);
      x.addStep(0, 1, 0, 's', 1, 0);
      x.addStep(1, 0, 1, '=', 1, 1);
      x.addStep(1, 1, 1, 's', 0, 1);
      answers(x, 0, 1, "nnnnn");
    });
    Sentences.test("from some state on", () -> {
      Statewarden x = Make.ending(2);
      x.addStep(0, 0, 1, 's', 1, 1);
      x.addStep(0, 1, 1, 'k', 0, 0);
      x.addStep(1, 0, 1, '=', 1, 1);
      x.addStep(1, 1, 1, 's', 0, 1);
      answers(x, 0, 1, "nnnyy");
    });
    Sentences.test("in a move of two, both do a step", () -> {
      Statewarden x = Make.ending(2);
      x.addChannel(0);
      x.addStep(0, 0, 0, 'w', 0, 3);
      x.addStep(1, 0, 0, 'r', 0, 5);
      x.addStep(1, 0, 1, 's', 0, 1);
      answers(x, 0, 1, "nnnnn");
      Statewarden y = Make.ending(2);
      y.addChannel(0);
      y.addStep(1, 0, 0, 'w', 0, 5);
      y.addStep(0, 0, 0, 'r', 0, 3);
      y.addStep(1, 0, 1, 's', 0, 1);
      answers(y, 0, 1, "nnnnn");
    });
  }

  private static void whoCanDoAStep() {
    Sentences.test("A process can do a step in a state if a move of this state has a step of"
        + " it.", () -> {
      Statewarden x = Make.ending(2);
      x.addChannel(0);
      x.addStep(0, 0, 0, 'k', 0, 0);
      x.addStep(0, 0, 1, 'w', 0, 3);
      x.addStep(1, 0, 1, 'r', 0, 5);
      x.addStep(1, 1, 1, 's', 0, 1);
      answers(x, 0, 1, "nnnyy");
      Statewarden y = Make.ending(2);
      y.addStep(0, 0, 0, 'k', 0, 0);
      y.addStep(1, 0, 1, 's', 0, 1);
      y.setMarks(0, 0, true, true);
      answers(y, 0, 1, "nnnnn");
      Statewarden z = Make.ending(2);
      z.addStep(0, 0, 0, 'k', 0, 0);
      z.addStep(1, 0, 1, '=', 1, 1);
      answers(z, 1, 1, "nnnnn");
      Statewarden w = Make.ending(3);
      w.addStep(0, 0, 0, 'k', 0, 0);
      w.addStep(1, 0, 1, 's', 0, 1);
      w.addStep(2, 0, 0, 'k', 0, 0);
      answers(w, 0, 1, "nnnyy");
    });
  }

  // ---- Exceptions

  /** Nothing more can be added to it; its search is on its way, without a fault. */
  private static Statewarden full() {
    Statewarden x = Make.chains(3, 2);
    x.addChannel(0);
    x.addChannel(2);
    for (int count = 0; count < 4; count++) {
      x.addInvariant(0, 3);
    }
    for (int number = 2; number < 14; number++) {
      x.addStep(0, 11, 11, 'k', 0, 0);
    }
    x.begin('a');
    x.search(2);
    return x;
  }

  /** The same, with a fault behind the six moves that there are. */
  private static Statewarden stuck() {
    Statewarden x = full();
    x.setMarks(0, 2, false, false);
    x.setMarks(1, 0, true, true);
    Make.searchAll(x, 'a');
    Check.same("it is stuck", x.traceLength(), 6);
    return x;
  }

  /** An invariant about an own variable of processes that are alike. */
  private static Statewarden watched() {
    Statewarden x = Make.chains(2, 2);
    x.addInvariant(3, 3);
    x.begin('p');
    x.search(1);
    return x;
  }

  private static Statewarden ended() {
    Statewarden x = Make.chains(2, 2);
    Make.searchAll(x, 'a');
    return x;
  }

  private static void exceptions() {
    Sentences.test("A method that throws an exception changes nothing.", () -> {
      refusedWhileLaying();
      refusedWhileSearching();
      refusedOfFaultsAndRuns();
    });
    Sentences.test("If several exceptions of a method apply, the one that is listed first is"
        + " thrown.",
        () -> {
          orderWithoutSearch();
          orderWithSearch();
        });
  }

  private static void refusedWhileLaying() {
    Look.Script script = TermsOfSearchTest::full;
    Look.refused("addProcess", STATE, script, Statewarden::addProcess);
    Look.refused("addStep", INDEX, script, x -> x.addStep(3, 0, 0, 'k', 0, 0));
    Look.refused("addStep", ARGUMENT, script, x -> x.addStep(1, 0, 12, 'k', 0, 0));
    Look.refused("addStep", STATE, script, x -> x.addStep(0, 0, 0, 'k', 0, 0));
    Look.refused("addChannel", ARGUMENT, script, x -> x.addChannel(3));
    Look.refused("addChannel", STATE, script, x -> x.addChannel(1));
    Look.refused("setStart", ARGUMENT, script, x -> x.setStart(0, 4));
    Look.refused("setMarks", INDEX, script, x -> x.setMarks(3, 0, false, false));
    Look.refused("setMarks", ARGUMENT, script, x -> x.setMarks(0, 12, false, false));
    Look.refused("addInvariant", ARGUMENT, script, x -> x.addInvariant(9, 1));
    Look.refused("addInvariant", STATE, script, x -> x.addInvariant(1, 1));
    Look.refused("areAlike", INDEX, script, x -> x.areAlike(0, 3));
  }

  private static void refusedWhileSearching() {
    Look.Script script = TermsOfSearchTest::full;
    Look.Script none = () -> Make.chains(2, 2);
    Look.refused("begin", ARGUMENT, script, x -> x.begin('x'));
    Look.refused("begin", UnsupportedOperationException.class, TermsOfSearchTest::watched,
        x -> x.begin('s'));
    Look.refused("search", STATE, none, x -> x.search(1));
    Look.refused("search", ARGUMENT, script, x -> x.search(501));
    Look.refused("verdict", STATE, none, Statewarden::verdict);
    Look.refused("states", STATE, none, Statewarden::states);
    Look.refused("goneOn", STATE, none, Statewarden::goneOn);
    Look.refused("codeOf", STATE, none, x -> x.codeOf(0));
    Look.refused("codeOf", INDEX, script, x -> x.codeOf(-1));
    Look.refused("moves", STATE, none, x -> x.moves(0));
    Look.refused("moves", INDEX, script, x -> x.moves(-1));
    Look.refused("reached", STATE, none, x -> x.reached(0, 0));
    Look.refused("reached", INDEX, script, x -> x.reached(-1, 0));
    Look.refused("reached", NONE, script, x -> x.reached(0, -1));
    Look.refused("variableIn", STATE, none, x -> x.variableIn(0, 0));
    Look.refused("variableIn", INDEX, script, x -> x.variableIn(-1, 0));
    Look.refused("variableIn", ARGUMENT, script, x -> x.variableIn(0, -1));
    Look.refused("made", STATE, none, Statewarden::made);
    Look.refused("meanMoves", STATE, none, Statewarden::meanMoves);
    Look.refused("newShare", STATE, none, Statewarden::newShare);
    Look.refused("newShare", ArithmeticException.class, () -> {
      Statewarden x = Make.chains(2, 2);
      x.begin('s');
      return x;
    }, Statewarden::newShare);
  }

  private static void refusedOfFaultsAndRuns() {
    Look.Script script = TermsOfSearchTest::full;
    Look.Script none = () -> Make.chains(2, 2);
    Look.Call[] faults = {Statewarden::fault, Statewarden::traceLength, x -> x.traceProcess(0),
      x -> x.traceStep(0), Statewarden::replays};
    for (Look.Call call : faults) {
      Look.refused("without a search", STATE, none, call);
      Look.refused("without a fault", NONE, script, call);
    }
    Look.refused("traceProcess", INDEX, TermsOfSearchTest::stuck, x -> x.traceProcess(6));
    Look.refused("traceStep", INDEX, TermsOfSearchTest::stuck, x -> x.traceStep(-1));
    Look.Call[] runs = {x -> x.recurs(0, 0, true), x -> x.recursByTaking(0, 0),
      x -> x.comes(0, 0, false), x -> x.follows(0, 0, 1, 0, true), x -> x.distance(0, 0),
      Statewarden::components};
    for (Look.Call call : runs) {
      Look.refused("without a search", STATE, none, call);
      Look.refused("on its way", STATE, script, call);
      Look.refused("with a fault", STATE, TermsOfSearchTest::stuck, call);
    }
    Look.Call[] wrong = {x -> x.recurs(9, 0, true), x -> x.recursByTaking(0, 4),
      x -> x.comes(-1, 0, false), x -> x.follows(0, 0, 9, 0, true), x -> x.distance(0, -1)};
    for (Look.Call call : wrong) {
      Look.refused("of all runs", ARGUMENT, TermsOfSearchTest::ended, call);
    }
    Look.refused("distance", NONE, TermsOfSearchTest::ended, x -> x.distance(0, 1));
  }

  private static void orderWithoutSearch() {
    Statewarden x = full();
    x.setStart(0, 0);
    Check.fails("addStep", INDEX, () -> x.addStep(3, 12, 0, 'k', 0, 0));
    Check.fails("addStep", ARGUMENT, () -> x.addStep(0, 12, 0, 'k', 0, 0));
    Check.fails("addChannel", ARGUMENT, () -> x.addChannel(3));
    Check.fails("setMarks", INDEX, () -> x.setMarks(3, 12, false, false));
    Check.fails("addInvariant", ARGUMENT, () -> x.addInvariant(0, 4));
    Check.fails("search", STATE, () -> x.search(0));
    Check.fails("codeOf", STATE, () -> x.codeOf(-1));
    Check.fails("moves", STATE, () -> x.moves(-1));
    Check.fails("reached", STATE, () -> x.reached(-1, -1));
    Check.fails("variableIn", STATE, () -> x.variableIn(-1, 9));
    Check.fails("fault", STATE, x::fault);
    Check.fails("traceLength", STATE, x::traceLength);
    Check.fails("traceProcess", STATE, () -> x.traceProcess(-1));
    Check.fails("traceStep", STATE, () -> x.traceStep(-1));
    Check.fails("replays", STATE, x::replays);
    Check.fails("newShare", STATE, x::newShare);
    wrongOfAllRuns(x);
  }

  private static void wrongOfAllRuns(Statewarden x) {
    Check.fails("recurs", ARGUMENT, () -> x.recurs(9, 0, true));
    Check.fails("recursByTaking", ARGUMENT, () -> x.recursByTaking(0, -1));
    Check.fails("comes", ARGUMENT, () -> x.comes(-1, 0, true));
    Check.fails("follows", ARGUMENT, () -> x.follows(0, 0, 0, 4, true));
    Check.fails("distance", ARGUMENT, () -> x.distance(0, 4));
  }

  private static void orderWithSearch() {
    Statewarden x = full();
    Check.fails("reached", INDEX, () -> x.reached(-1, -1));
    Check.fails("variableIn", INDEX, () -> x.variableIn(-1, 9));
    Check.fails("traceProcess", NONE, () -> x.traceProcess(-1));
    Check.fails("traceStep", NONE, () -> x.traceStep(-1));
    wrongOfAllRuns(x);
    Check.fails("distance", STATE, () -> x.distance(0, 2));
    Statewarden y = watched();
    Check.fails("begin", ARGUMENT, () -> y.begin('S'));
  }
}
