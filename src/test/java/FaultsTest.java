import java.util.NoSuchElementException;

/** Promises 19 to 23, and which faults there are: what is told of them, and with which trace. */
public final class FaultsTest {
  private static final Class<IllegalStateException> STATE = IllegalStateException.class;
  private static final Class<IndexOutOfBoundsException> INDEX = IndexOutOfBoundsException.class;
  private static final Class<NoSuchElementException> NONE = NoSuchElementException.class;

  private FaultsTest() {}

  public static void main(String[] args) {
    noSearch();
    noFault();
    stuckAtTheStart();
    stuckFurtherOn();
    whatStopsProcesses();
    brokenAtTheStart();
    brokenWhenFound();
    assertion();
    assertionThatHolds();
    assertionThatIsNoMove();
    whichFaultIsFirst();
    leadersOfTwo();
    shortest();
    longest();
    traceInModeS();
    traceInModeP();
    traceInModeH();
    assertionsInOtherModes();
    places();
    Check.end();
  }

  private static Statewarden with(int processes) {
    Statewarden x = new Statewarden();
    for (int process = 0; process < processes; process++) {
      x.addProcess();
    }
    return x;
  }

  /** Searches all, and looks at all that is told of the fault; moves are process and step. */
  private static void due(String what, Statewarden x, char mode, char fault, int... moves) {
    x.begin(mode);
    for (int turn = 0; turn < 5; turn++) {
      x.search(500);
    }
    Check.same(what + ", verdict", x.verdict(), 'f');
    Check.same(what + ", fault", x.fault(), fault);
    Check.same(what + ", traceLength", x.traceLength(), moves.length / 2);
    for (int index = 0; index < moves.length / 2 && index < x.traceLength(); index++) {
      Check.same(what + ", traceProcess " + index, x.traceProcess(index), moves[2 * index]);
      Check.same(what + ", traceStep " + index, x.traceStep(index), moves[2 * index + 1]);
    }
    Check.same(what + ", replays", x.replays(), true);
    Check.same(what + ", isSound", x.isSound(), true);
    Check.same(what + ", it has ended", x.search(500), 0);
    Check.fails(what + ", no answers on runs", STATE, x::components);
  }

  private static void counts(Statewarden x, int states, int goneOn, long made) {
    Check.same("states", x.states(), states);
    Check.same("goneOn", x.goneOn(), goneOn);
    Check.same("made", x.made(), made);
  }

  private static void noFaultIn(String what, Statewarden x) {
    x.begin('a');
    for (int turn = 0; turn < 5; turn++) {
      x.search(500);
    }
    Check.same(what, x.verdict(), 'n');
    Check.fails(what, NONE, x::fault);
  }

  private static void noSearch() {
    Statewarden x = with(1);
    x.begin('a');
    x.search(1);
    Check.same("a fault", x.fault(), 'd');
    x.setStart(0, 0);
    Check.fails("dropped, fault", STATE, x::fault);
    Check.fails("dropped, traceLength", STATE, x::traceLength);
    Check.fails("dropped, traceProcess", STATE, () -> x.traceProcess(-1));
    Check.fails("dropped, traceStep", STATE, () -> x.traceStep(-1));
    Check.fails("dropped, replays", STATE, x::replays);
  }

  private static void noFault() {
    Statewarden x = with(1);
    x.setMarks(0, 0, true, false);
    x.begin('a');
    for (int turn = 0; turn < 2; turn++) {
      Check.fails("none, fault", NONE, x::fault);
      Check.fails("none, traceLength", NONE, x::traceLength);
      Check.fails("none, traceProcess", NONE, () -> x.traceProcess(-1));
      Check.fails("none, traceStep", NONE, () -> x.traceStep(-1));
      Check.fails("none, replays", NONE, x::replays);
      x.search(1);
    }
    Check.same("none", x.verdict(), 'n');
  }

  private static void stuckAtTheStart() {
    Statewarden x = with(2);
    Check.same("not looked at when it is found", x.begin('a'), '?');
    due("stuck", x, 'a', 'd');
    counts(x, 1, 1, 0);
    x.setMarks(0, 0, true, false);
    due("one is at no end", x, 'a', 'd');
    x.setMarks(0, 0, false, true);
    x.setMarks(1, 0, true, false);
    due("the other one is at no end", x, 'a', 'd');
    x.setMarks(0, 0, true, true);
    noFaultIn("both are at ends", x);
    x.addProcess();
    due("a third one is at no end", x, 's', 'd');
    noFaultIn("no process is stuck nowhere", with(0));
  }

  private static void stuckFurtherOn() {
    Statewarden x = with(2);
    x.addStep(0, 0, 2, 'k', 0, 0);
    x.addStep(0, 0, 1, 'k', 0, 0);
    x.addStep(0, 2, 2, 'k', 0, 0);
    x.addStep(1, 0, 1, 'k', 0, 0);
    x.setMarks(1, 1, true, false);
    due("stuck behind two moves", x, 'a', 'd', 0, 1, 1, 0);
    // states: start, 0 at 2, 0 at 1, 1 at 1, then 2 and 1, 1 and 1; gone on from all of them
    counts(x, 6, 6, 9);
    x.setMarks(0, 1, true, false);
    noFaultIn("all ends", x);
  }

  private static void whatStopsProcesses() {
    Statewarden x = with(1);
    x.addStep(0, 0, 1, '=', 0, 1);
    due("'='", x, 'a', 'd');
    x = with(1);
    x.addStep(0, 0, 1, '!', 0, 0);
    due("'!'", x, 'a', 'd');
    x = with(1);
    x.addChannel(2);
    x.addStep(0, 0, 1, 'r', 0, 0);
    due("'r' from what is empty", x, 'a', 'd');
    x = with(1);
    x.addChannel(2);
    x.addStep(0, 0, 0, 'w', 0, 0);
    due("'w' into what is full", x, 'a', 'd', 0, 0, 0, 0);
    x = with(1);
    x.addChannel(1);
    x.addStep(0, 0, 0, 'w', 0, 0);
    due("'w' into what is full", x, 'a', 'd', 0, 0);
    x = with(2);
    x.addChannel(0);
    x.addStep(0, 0, 0, 'w', 0, 0);
    x.addStep(1, 1, 0, 'r', 0, 0);
    due("'w' without 'r'", x, 'a', 'd');
    x.addStep(1, 0, 1, 'k', 0, 0);
    noFaultIn("'w' with 'r'", x);
  }

  private static void brokenAtTheStart() {
    Statewarden x = with(1);
    x.setStart(4, 3);
    x.addInvariant(4, 2);
    x.addInvariant(4, 3);
    Check.same("at once", x.begin('a'), 'f');
    due("broken at the start", x, 'a', 'i');
    counts(x, 1, 0, 0);
    Check.fails("no place in the trace", INDEX, () -> x.traceProcess(0));
    Check.fails("no place in the trace", INDEX, () -> x.traceStep(0));
  }

  private static void brokenWhenFound() {
    Statewarden x = with(2);
    x.addStep(0, 0, 0, 'i', 2, 1);
    x.addStep(1, 0, 0, 'i', 6, 1);
    x.addInvariant(6, 2);
    due("own variable", x, 'a', 'i', 1, 0, 1, 0);
    // start, one by each, then 2 and 0, 1 and 1, and from 0 and 1 the move of 0 and that of 1
    counts(x, 6, 3, 6);
    Check.same("the last state breaks it", x.variableIn(5, 6), 2);
    Statewarden y = with(2);
    y.addStep(0, 0, 0, 'i', 2, 1);
    y.addStep(1, 0, 0, 'i', 6, 1);
    y.addInvariant(2, 3);
    due("shared variable", y, 'a', 'i', 0, 0, 0, 0, 0, 0);
    counts(y, 7, 4, 7);
  }

  private static void assertion() {
    Statewarden x = with(1);
    x.addStep(0, 0, 1, 'k', 0, 0);
    x.addStep(0, 1, 2, 'i', 3, 1);
    x.addStep(0, 2, 3, 'a', 3, 1);
    due("refuted", x, 'a', 'a', 0, 0, 0, 1, 0, 2);
    counts(x, 3, 3, 2);
    Check.same("it is a move", x.moves(2), 1);
    Check.same("that reaches a state", x.reached(2, 0),
        Check.code(Check.row(3, 1, 0, 0, 0, 0, 0, 0, 0), new int[3], new int[6]));
    Statewarden y = with(1);
    y.addStep(0, 0, 1, 'k', 0, 0);
    y.addStep(0, 0, 2, 'a', 1, 0);
    y.addStep(0, 0, 3, 'k', 0, 0);
    due("behind other moves", y, 'a', 'a', 0, 1);
    counts(y, 2, 1, 1);
  }

  private static void assertionThatHolds() {
    Statewarden x = with(1);
    x.setStart(1, 2);
    x.addStep(0, 0, 0, 'a', 1, 0);
    x.addStep(0, 0, 0, 'a', 1, 1);
    x.addStep(0, 0, 0, 'a', 1, 3);
    noFaultIn("it holds", x);
    Check.same("three moves", x.made(), 3L);
    x.setStart(1, 3);
    due("the third one does not", x, 'a', 'a', 0, 2);
  }

  private static void assertionThatIsNoMove() {
    Statewarden x = with(2);
    x.addStep(0, 0, 1, 'a', 0, 0);
    x.addStep(0, 1, 1, 'k', 0, 0);
    x.addStep(1, 0, 0, 'k', 0, 0);
    due("a move", x, 'a', 'a', 0, 0);
    x.setMarks(1, 0, false, true);
    noFaultIn("the quiet process alone leads moves", x);
  }

  private static void whichFaultIsFirst() {
    Statewarden x = with(1);
    x.addStep(0, 0, 1, 'a', 0, 0);
    x.addStep(0, 0, 2, 's', 0, 3);
    x.addInvariant(0, 3);
    due("by the order of moves", x, 'a', 'a', 0, 0);
    Statewarden y = with(1);
    y.addStep(0, 0, 2, 's', 0, 3);
    y.addStep(0, 0, 1, 'a', 0, 0);
    y.addInvariant(0, 3);
    due("by the order of moves", y, 'a', 'i', 0, 0);
    counts(y, 2, 1, 1);
    Statewarden z = with(1);
    z.addStep(0, 0, 1, 'k', 0, 0);
    z.addStep(0, 0, 2, 's', 0, 3);
    z.addInvariant(0, 3);
    due("found ahead of what is stuck", z, 'a', 'i', 0, 1);
  }

  private static void leadersOfTwo() {
    Statewarden x = with(3);
    x.addChannel(0);
    x.addStep(0, 0, 1, 'r', 0, 0);
    x.addStep(0, 1, 2, 'r', 0, 1);
    x.addStep(2, 0, 0, 'k', 0, 0);
    x.addStep(2, 0, 1, 'w', 0, 7);
    x.addStep(1, 0, 1, 'w', 0, 5);
    x.setStart(7, 2);
    x.setStart(5, 3);
    x.addInvariant(1, 3);
    due("the one of the 'w' leads", x, 'a', 'i', 2, 1, 1, 0);
  }

  private static void shortest() {
    Statewarden x = with(2);
    for (int location = 0; location < 6; location++) {
      x.addStep(0, location, location + 1, location == 5 ? 's' : 'k', 0, 1);
    }
    x.addStep(1, 0, 1, 'k', 0, 0);
    x.addStep(1, 1, 2, 'k', 0, 0);
    x.addStep(1, 2, 3, 's', 0, 1);
    x.addStep(1, 0, 4, 'k', 0, 0);
    x.addStep(1, 4, 3, 's', 0, 1);
    x.addInvariant(0, 1);
    due("the shortest run", x, 'a', 'i', 1, 3, 1, 4);
  }

  /** One way, on which five variables are counted up; its state 1999 breaks the invariant. */
  private static void longest() {
    Statewarden x = with(1);
    int[] counters = {3, 4, 0, 1, 2};
    for (int place = 0; place < 5; place++) {
      x.addStep(0, place, 5 + place, 'i', counters[place], 1);
      x.addStep(0, 5 + place, 0, '!', counters[place], 0);
      if (place < 4) {
        x.addStep(0, 5 + place, place + 1, '=', counters[place], 0);
      }
    }
    x.setStart(3, 2);
    x.setStart(0, 1);
    x.begin('a');
    for (int turn = 0; turn < 5; turn++) {
      x.search(500);
    }
    Check.same("without an invariant", x.verdict(), '?');
    counts(x, 2000, 1999, 1999);
    x.addInvariant(2, 3);
    x.begin('a');
    for (int turn = 0; turn < 5; turn++) {
      x.search(500);
    }
    Check.same("fault", x.fault(), 'i');
    counts(x, 2000, 1999, 1999);
    Check.same("traceLength", x.traceLength(), 1999);
    Check.same("the last process", x.traceProcess(1998), 0);
    Check.same("the last step", x.traceStep(1998), 12);
    Check.same("the step before", x.traceStep(1997), 11);
    Check.same("the first step", x.traceStep(0), 0);
    Check.same("the second step", x.traceStep(1), 1);
    Check.fails("behind the last step", INDEX, () -> x.traceStep(1999));
    Check.same("replays", x.replays(), true);
    Check.same("isSound", x.isSound(), true);
    Check.same("replays once more", x.replays(), true);
  }

  private static void traceInModeS() {
    Statewarden x = with(2);
    x.addStep(0, 0, 1, 'i', 0, 1);
    x.addStep(1, 0, 1, 'i', 0, 1);
    x.addInvariant(0, 2);
    due("each for itself", x, 'a', 'i', 0, 0, 1, 0);
    due("exchanged behind the first move", x, 's', 'i', 0, 0, 0, 0);
    counts(x, 3, 2, 3);
    Statewarden y = with(3);
    for (int process = 0; process < 3; process++) {
      y.addStep(process, 0, 1, 's', 3 + 2 * process, 1);
      y.addStep(process, 1, 2, 'k', 0, 0);
    }
    y.addStep(0, 3, 0, 'k', 0, 0);
    y.addStep(1, 3, 0, 'k', 0, 0);
    y.addStep(2, 3, 0, 'k', 0, 0);
    due("stuck in 's'", y, 's', 'd', 0, 0, 0, 0, 0, 0, 0, 1, 0, 1, 0, 1);
  }

  private static void traceInModeP() {
    Statewarden x = with(2);
    x.addStep(0, 0, 1, 'k', 0, 0);
    x.addStep(0, 1, 2, 'k', 0, 0);
    x.addStep(1, 0, 1, 'k', 0, 0);
    due("in 'a'", x, 'a', 'd', 0, 0, 0, 1, 1, 0);
    counts(x, 6, 6, 7);
    due("in 'p'", x, 'p', 'd', 0, 0, 0, 1, 1, 0);
    counts(x, 4, 4, 3);
    x.addStep(0, 2, 3, 's', 0, 1);
    x.addStep(1, 1, 2, 's', 0, 1);
    x.addInvariant(0, 1);
    due("broken in 'a'", x, 'a', 'i', 1, 0, 1, 1);
    due("broken in 'p'", x, 'p', 'i', 0, 0, 0, 1, 1, 0, 0, 2);
  }

  private static void traceInModeH() {
    Statewarden x = with(1);
    x.addStep(0, 0, 1, 's', 3, 1);
    x.addStep(0, 1, 2, 's', 4, 3);
    x.addStep(0, 2, 7, 's', 0, 2);
    x.addStep(0, 2, 8, 'k', 0, 0);
    due("in 'h'", x, 'h', 'd', 0, 0, 0, 1, 0, 3);
    due("in 'a'", x, 'a', 'd', 0, 0, 0, 1, 0, 2);
  }

  private static void assertionsInOtherModes() {
    for (char mode : new char[] {'a', 'p', 's', 'h'}) {
      Statewarden x = with(2);
      for (int process = 0; process < 2; process++) {
        x.addStep(process, 0, 1, 'k', 0, 0);
        x.addStep(process, 1, 2, 'i', 3 + 2 * process, 2);
        x.addStep(process, 2, 3, 'a', 3 + 2 * process, 2);
      }
      if (mode == 's') {
        due("refuted in s", x, mode, 'a', 0, 0, 1, 1, 1, 2);
      } else if (mode == 'p') {
        due("refuted in p", x, mode, 'a', 0, 0, 0, 1, 1, 0, 1, 1, 0, 2);
      } else {
        due("refuted in " + mode, x, mode, 'a', 0, 0, 0, 1, 0, 2);
      }
    }
  }

  private static void places() {
    Statewarden x = with(1);
    x.addStep(0, 0, 1, 'k', 0, 0);
    x.addStep(0, 1, 2, 'a', 0, 0);
    due("two moves", x, 'a', 'a', 0, 0, 0, 1);
    for (int index : new int[] {-1, 2, 3, 2000, Integer.MAX_VALUE, Integer.MIN_VALUE}) {
      Check.fails("traceProcess " + index, INDEX, () -> x.traceProcess(index));
      Check.fails("traceStep " + index, INDEX, () -> x.traceStep(index));
    }
    Check.same("nothing was changed", x.traceStep(1), 1);
  }
}
