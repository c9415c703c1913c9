import java.util.HashSet;
import java.util.NoSuchElementException;
import java.util.Set;

/** Promises 9 to 18: the search in its modes, states and moves. */
public final class SearchTest {
  private static final Class<IllegalArgumentException> ARGUMENT = IllegalArgumentException.class;
  private static final Class<IllegalStateException> STATE = IllegalStateException.class;
  private static final Class<IndexOutOfBoundsException> INDEX = IndexOutOfBoundsException.class;
  private static final Class<NoSuchElementException> NONE = NoSuchElementException.class;

  private SearchTest() {}

  public static void main(String[] args) {
    beginAnswers();
    beginThatIsRefused();
    beginTakesThePlace();
    budgets();
    statesInTheOrderInWhichTheyAreFound();
    codes();
    whatStepsDo();
    whatChannelsDo();
    channelsAreKept();
    startsAreMadeAnew();
    orderOfMoves();
    handoversNeedTwo();
    quietLocations();
    movesOfStatesThatAreNotGoneOnFrom();
    wrongStatesAndMoves();
    twoThousandStates();
    faultInTheLastState();
    exactlyTwoThousandStates();
    modeP();
    whoGoesAlone();
    modeS();
    modeSWithOwnVariables();
    modeSAmongThree();
    modeH();
    modeHEndsWithin509();
    Check.end();
  }

  private static Statewarden with(int processes) {
    Statewarden x = new Statewarden();
    for (int process = 0; process < processes; process++) {
      x.addProcess();
      for (int location = 0; location < 12; location++) {
        x.setMarks(process, location, true, false);
      }
    }
    return x;
  }

  /** Each process goes from the location 0 to the last one, by 'k'. */
  private static Statewarden chains(int processes, int last) {
    Statewarden x = with(processes);
    for (int process = 0; process < processes; process++) {
      for (int location = 0; location < last; location++) {
        x.addStep(process, location, location + 1, 'k', 0, 0);
      }
    }
    return x;
  }

  private static long code(int first, int second, int third) {
    return Check.code(
        Check.row(first, 0, 0, second, 0, 0, third, 0, 0), new int[3], new int[6]);
  }

  private static void beginAnswers() {
    for (char mode : new char[] {'a', 'p', 's', 'h'}) {
      Statewarden x = chains(2, 1);
      Check.same("begin " + mode, x.begin(mode), '?');
      Check.same("one state", x.states(), 1);
      Check.same("not gone on", x.goneOn(), 0);
      Check.same("no moves made", x.made(), 0L);
      Check.same("verdict", x.verdict(), '?');
      x.setStart(1, 2);
      x.addInvariant(1, 2);
      Check.same("begin " + mode + " at a fault", x.begin(mode), 'f');
      Check.same("verdict", x.verdict(), 'f');
      Check.same("one state", x.states(), 1);
      Check.same("it has ended", x.search(500), 0);
      Check.same("nothing was gone on from", x.goneOn(), 0);
    }
    Statewarden x = with(0);
    x.setStart(8, 1);
    x.addInvariant(8, 1);
    Check.same("own variables of no process", x.begin('a'), 'f');
  }

  private static void beginThatIsRefused() {
    Statewarden x = chains(3, 1);
    for (char mode : new char[] {'b', 'A', 'n', 0, (char) 65535}) {
      Check.fails("begin " + (int) mode, ARGUMENT, () -> x.begin(mode));
    }
    Check.fails("no search was begun", STATE, x::states);
    x.addInvariant(0, 1);
    Check.same("a shared variable", x.begin('s'), '?');
    x.addStep(2, 0, 0, 'k', 0, 0);
    x.addInvariant(7, 1);
    Check.same("a process that is alike none", x.begin('s'), '?');
    x.search(1);
    x.addInvariant(6, 1);
    Check.same("other modes", x.begin('p'), '?');
    x.search(1);
    Check.fails("1 is alike 0", UnsupportedOperationException.class, () -> x.begin('s'));
    Check.fails("the mode first", ARGUMENT, () -> x.begin('S'));
    Check.same("the other search goes on", x.goneOn(), 1);
    x.addStep(0, 0, 5, 'k', 0, 0);
    Check.same("1 is alike none any more", x.begin('s'), '?');
    x.addStep(1, 0, 0, 'k', 0, 0);
    Check.fails("1 is alike 2", UnsupportedOperationException.class, () -> x.begin('s'));
    Statewarden y = chains(2, 1);
    y.addInvariant(8, 1);
    Check.same("a process that there is not", y.begin('s'), '?');
    y.addProcess();
    y.addInvariant(4, 1);
    Check.fails("0 is alike 1", UnsupportedOperationException.class, () -> y.begin('s'));
  }

  private static void beginTakesThePlace() {
    Statewarden x = chains(2, 3);
    x.addInvariant(0, 3);
    x.addStep(0, 3, 3, 's', 0, 3);
    x.begin('a');
    x.search(500);
    Check.same("a fault at first", x.verdict(), 'f');
    Check.same("begin", x.begin('a'), '?');
    Check.fails("no fault any more", NONE, x::fault);
    Check.same("one state", x.states(), 1);
    Check.same("no moves made", x.made(), 0L);
    Check.same("none gone on from", x.goneOn(), 0);
    Check.fails("no second state", INDEX, () -> x.codeOf(1));
    Check.same("from the start once more", x.search(1), 2);
  }

  private static void budgets() {
    Statewarden x = chains(1, 7);
    for (int location = 0; location < 4; location++) {
      x.addStep(0, location, 8 + location, 'k', 0, 0);
    }
    Check.fails("no search", STATE, () -> x.search(1));
    Check.fails("no search comes first", STATE, () -> x.search(0));
    x.begin('a');
    for (int budget : new int[] {0, -1, 501, Integer.MAX_VALUE, Integer.MIN_VALUE}) {
      Check.fails("budget " + budget, ARGUMENT, () -> x.search(budget));
    }
    Check.same("nothing was done", x.goneOn(), 0);
    Check.same("search(1)", x.search(1), 2);
    Check.same("goneOn", x.goneOn(), 1);
    Check.same("made", x.made(), 2L);
    Check.same("search(2)", x.search(2), 2);
    Check.same("goneOn", x.goneOn(), 3);
    Check.same("states", x.states(), 5);
    Check.same("search(4)", x.search(4), 4);
    Check.same("search(3)", x.search(3), 2);
    Check.same("goneOn", x.goneOn(), 10);
    Check.same("not yet", x.verdict(), '?');
    Check.same("states", x.states(), 11);
    Check.same("the last state is found", x.search(1), 1);
    Check.same("but not gone on from", x.verdict(), '?');
    Check.same("the last one", x.search(1), 0);
    Check.same("it has ended with that", x.verdict(), 'n');
    Check.same("goneOn", x.goneOn(), 12);
    Check.same("behind the end", x.search(500), 0);
    Check.same("goneOn", x.goneOn(), 12);
    Check.same("made", x.made(), 11L);
    x.begin('a');
    Check.same("all at once", x.search(500), 11);
    Check.same("goneOn", x.goneOn(), 12);
  }

  private static void statesInTheOrderInWhichTheyAreFound() {
    Statewarden x = chains(2, 2);
    x.begin('a');
    Check.same("all", x.search(500), 8);
    int[] firsts = {0, 1, 0, 2, 1, 0, 2, 1, 2};
    int[] seconds = {0, 0, 1, 0, 1, 2, 1, 2, 2};
    for (int state = 0; state < 9; state++) {
      Check.same("state " + state, x.codeOf(state), code(firsts[state], seconds[state], 0));
    }
    Check.same("made", x.made(), 12L);
    Check.same("verdict", x.verdict(), 'n');
    Statewarden y = with(1);
    y.addStep(0, 0, 5, 'k', 0, 0);
    y.addStep(0, 0, 3, 'k', 0, 0);
    y.addStep(0, 0, 5, 'k', 0, 0);
    y.addStep(0, 0, 0, 'k', 0, 0);
    y.begin('a');
    Check.same("each state once", y.search(1), 2);
    Check.same("by the order of the steps", y.codeOf(1), code(5, 0, 0));
    Check.same("by the order of the steps", y.codeOf(2), code(3, 0, 0));
    Check.same("all moves were made", y.made(), 4L);
  }

  private static void codes() {
    Statewarden x = with(2);
    int[] starts = {1, 2, 3, 3, 1, 2, 0, 1, 3};
    for (int variable = 0; variable < 9; variable++) {
      x.setStart(variable, starts[variable]);
    }
    x.begin('a');
    Check.same("with a process that there is not", x.codeOf(0),
        Check.code(Check.row(0, 3, 1, 0, 2, 0, 0, 1, 3), Check.row(1, 2, 3), new int[6]));
    for (int variable = 0; variable < 9; variable++) {
      Check.same("variableIn " + variable, x.variableIn(0, variable), starts[variable]);
    }
    Statewarden y = with(3);
    for (int process = 0; process < 3; process++) {
      y.addStep(process, 0, 11, 'k', 0, 0);
    }
    for (int variable = 0; variable < 9; variable++) {
      y.setStart(variable, 3);
    }
    y.begin('a');
    y.search(500);
    Check.same("the last of the greatest", y.codeOf(7),
        Check.code(Check.row(11, 3, 3, 11, 3, 3, 11, 3, 3), Check.row(3, 3, 3), new int[6]));
    for (int variable = 0; variable < 9; variable++) {
      Check.same("variableIn " + variable, y.variableIn(7, variable), 3);
    }
  }

  private static void whatStepsDo() {
    Statewarden x = with(2);
    x.setStart(5, 2);
    x.setStart(1, 3);
    x.addStep(1, 0, 1, 'k', 5, 3);
    x.addStep(1, 0, 2, 's', 5, 1);
    x.addStep(1, 0, 3, 'i', 5, 3);
    x.addStep(1, 0, 4, 'i', 1, 0);
    x.addStep(1, 0, 5, '=', 5, 2);
    x.addStep(1, 0, 6, '=', 5, 1);
    x.addStep(1, 0, 7, '!', 5, 2);
    x.addStep(1, 0, 8, '!', 5, 1);
    x.addStep(1, 0, 9, 'a', 1, 2);
    x.addStep(1, 0, 10, 's', 1, 0);
    x.addStep(1, 1, 0, 'k', 0, 0);
    x.begin('a');
    Check.same("moves", x.moves(0), 8);
    int[] to = {1, 2, 3, 4, 5, 8, 9, 10};
    int[] own = {2, 1, 1, 2, 2, 2, 2, 2};
    int[] shared = {3, 3, 3, 3, 3, 3, 3, 0};
    for (int move = 0; move < 8; move++) {
      Check.same("reached " + move, x.reached(0, move), Check.code(
          Check.row(0, 0, 0, to[move], own[move], 0, 0, 0, 0),
          Check.row(0, shared[move], 0), new int[6]));
    }
    Check.same("reached makes no moves", x.made(), 0L);
    x.search(500);
    Check.same("variableIn", x.variableIn(2, 5), 1);
    Check.same("variableIn", x.variableIn(8, 1), 0);
  }

  private static void whatChannelsDo() {
    Statewarden x = with(2);
    x.addChannel(1);
    x.addChannel(2);
    x.setStart(3, 3);
    x.setStart(0, 1);
    x.addStep(0, 0, 1, 'w', 1, 3);
    x.addStep(0, 1, 2, 'w', 1, 4);
    x.addStep(0, 2, 3, 'w', 1, 0);
    x.addStep(0, 2, 4, 'r', 0, 4);
    x.addStep(0, 2, 5, 'w', 0, 0);
    x.addStep(0, 5, 6, 'r', 1, 1);
    x.addStep(0, 5, 3, 'w', 0, 0);
    x.addStep(0, 6, 7, 'w', 1, 0);
    x.addStep(0, 7, 8, 'r', 1, 3);
    x.addStep(0, 8, 9, 'r', 1, 2);
    x.addStep(0, 9, 3, 'r', 1, 2);
    x.addStep(0, 9, 10, 'r', 0, 4);
    x.begin('a');
    x.search(500);
    // location, 3, 4, the shared ones, channel 0, channel 1
    int[][] due = {
      {0, 3, 0, 1, 0, 0, 0, 0, 0, 0, 0, 0},
      {1, 3, 0, 1, 0, 0, 0, 0, 0, 1, 3, 0},
      {2, 3, 0, 1, 0, 0, 0, 0, 0, 2, 3, 0},
      {5, 3, 0, 1, 0, 0, 1, 1, 0, 2, 3, 0},
      {6, 3, 0, 1, 3, 0, 1, 1, 0, 1, 0, 0},
      {7, 3, 0, 1, 3, 0, 1, 1, 0, 2, 0, 1},
      {8, 0, 0, 1, 3, 0, 1, 1, 0, 1, 1, 0},
      {9, 0, 0, 1, 3, 1, 1, 1, 0, 0, 0, 0},
      {10, 0, 1, 1, 3, 1, 0, 0, 0, 0, 0, 0}};
    Check.same("states", x.states(), due.length);
    for (int state = 0; state < due.length && state < x.states(); state++) {
      int[] row = due[state];
      Check.same("state " + state, x.codeOf(state), Check.code(
          Check.row(row[0], row[1], row[2], 0, 0, 0, 0, 0, 0),
          Check.row(row[3], row[4], row[5]),
          Check.row(row[6], row[7], row[8], row[9], row[10], row[11])));
      Check.same("moves of " + state, x.moves(state), state == due.length - 1 ? 0 : 1);
    }
  }

  private static void channelsAreKept() {
    Statewarden x = with(2);
    x.addChannel(2);
    x.addChannel(2);
    x.setStart(0, 1);
    x.addStep(0, 0, 1, 'w', 1, 0);
    x.addStep(0, 1, 2, 'w', 1, 0);
    x.addStep(0, 2, 3, 'r', 1, 4);
    x.addStep(1, 0, 1, 'k', 0, 0);
    x.begin('a');
    x.search(500);
    Check.same("states", x.states(), 8);
    for (int state = 0; state < 8; state++) {
      long code = x.codeOf(state);
      int at = (int) (code / code(1, 0, 0));
      int own = at == 3 ? 1 : 0;
      int other = (int) (code / code(0, 1, 0) % 12);
      int[] held = at == 2 ? Check.row(2, 1, 1) : at == 0 ? Check.row(0, 0, 0) : Check.row(1, 1, 0);
      Check.same("state " + state, code, Check.code(
          Check.row(at, 0, own, other, 0, 0, 0, 0, 0), Check.row(1, 0, 0),
          Check.row(0, 0, 0, held[0], held[1], held[2])));
    }
  }

  private static void startsAreMadeAnew() {
    Statewarden x = with(1);
    x.addChannel(2);
    x.setStart(3, 3);
    x.setStart(0, 2);
    x.addStep(0, 0, 5, 'w', 0, 3);
    x.addStep(0, 5, 6, 'w', 0, 0);
    x.addStep(0, 6, 7, 's', 3, 0);
    long due = Check.code(Check.row(0, 3, 0, 0, 0, 0, 0, 0, 0), Check.row(2, 0, 0), new int[6]);
    for (char mode : new char[] {'a', 'p', 's', 'h'}) {
      x.begin(mode);
      Check.same("the start in " + mode, x.codeOf(0), due);
      x.search(500);
      Check.same("the end in " + mode, x.codeOf(3),
          Check.code(Check.row(7, 0, 0, 0, 0, 0, 0, 0, 0), Check.row(2, 0, 0),
              Check.row(2, 3, 2, 0, 0, 0)));
    }
    x.setMarks(0, 7, false, false);
    x.begin('a');
    x.search(500);
    Check.same("a fault where the channel is full", x.fault(), 'd');
    for (int turn = 0; turn < 3; turn++) {
      Check.same("its trace begins with an empty one", x.replays(), true);
    }
  }

  private static void orderOfMoves() {
    Statewarden x = with(3);
    x.addChannel(0);
    x.addChannel(1);
    x.setStart(3, 2);
    x.setStart(6, 1);
    x.setStart(8, 3);
    x.addStep(0, 0, 1, 'w', 0, 3);
    x.addStep(0, 0, 2, 'k', 0, 0);
    x.addStep(0, 5, 0, 'k', 0, 0);
    x.addStep(1, 0, 1, 'r', 0, 5);
    x.addStep(1, 0, 2, 'r', 0, 0);
    x.addStep(1, 0, 3, 'w', 1, 6);
    x.addStep(1, 1, 3, 'r', 0, 6);
    x.addStep(2, 0, 3, 'r', 0, 7);
    x.addStep(2, 0, 4, 'r', 1, 8);
    x.addStep(2, 0, 5, 'w', 0, 8);
    x.begin('a');
    // locations, 3, 5, 7, 0, numbers in the channel 1 and the first of them
    int[][] due = {
      {1, 1, 0, 2, 2, 0, 0, 0, 0},
      {1, 2, 0, 2, 0, 0, 2, 0, 0},
      {1, 0, 3, 2, 0, 2, 0, 0, 0},
      {2, 0, 0, 2, 0, 0, 0, 0, 0},
      {0, 3, 0, 2, 0, 0, 0, 1, 1},
      {0, 1, 5, 2, 3, 0, 0, 0, 0},
      {0, 2, 5, 2, 0, 0, 3, 0, 0}};
    Check.same("moves", x.moves(0), due.length);
    for (int move = 0; move < due.length; move++) {
      int[] row = due[move];
      Check.same("move " + move, x.reached(0, move), Check.code(
          Check.row(row[0], row[3], 0, row[1], row[4], 1, row[2], row[5], 3),
          Check.row(row[6], 0, 0), Check.row(0, 0, 0, row[7], row[8], 0)));
    }
    Check.same("each leads to a new state", x.search(1), due.length);
    Check.same("made", x.made(), (long) due.length);
    for (int move = 0; move < due.length; move++) {
      Check.same("found in this order", x.codeOf(move + 1), x.reached(0, move));
    }
  }

  private static void handoversNeedTwo() {
    Statewarden x = with(2);
    x.addChannel(0);
    x.addStep(0, 0, 1, 'w', 0, 0);
    x.addStep(0, 0, 2, 'r', 0, 0);
    x.begin('a');
    Check.same("a process with itself", x.moves(0), 0);
    x.addStep(1, 1, 0, 'r', 0, 0);
    x.addStep(1, 0, 0, 'w', 0, 5);
    x.begin('a');
    Check.same("a receiver that is elsewhere does not count", x.moves(0), 1);
    Check.same("both go on", x.reached(0, 0), code(2, 0, 0));
  }

  private static void quietLocations() {
    Statewarden x = with(3);
    x.addChannel(0);
    for (int process = 0; process < 3; process++) {
      x.addStep(process, 0, 1, 'k', 0, 0);
      x.addStep(process, 0, 2, 'k', 0, 0);
    }
    x.begin('a');
    Check.same("none is quiet", x.moves(0), 6);
    x.setMarks(2, 0, true, true);
    x.begin('a');
    Check.same("2 is quiet", x.moves(0), 2);
    Check.same("its first move", x.reached(0, 0), code(0, 0, 1));
    Check.same("its second move", x.reached(0, 1), code(0, 0, 2));
    x.setMarks(1, 0, true, true);
    x.begin('a');
    Check.same("1 and 2 are quiet", x.moves(0), 2);
    Check.same("the lower one's move", x.reached(0, 0), code(0, 1, 0));
    x.search(1);
    Check.same("behind it, 2 goes", x.reached(1, 0), code(0, 1, 1));
    Check.same("also where quiet locations are left", x.moves(1), 2);
    Statewarden y = with(3);
    y.addChannel(0);
    y.addStep(0, 0, 1, 'w', 0, 0);
    y.addStep(1, 0, 1, 'r', 0, 5);
    y.addStep(2, 0, 1, 'k', 0, 0);
    y.setMarks(1, 0, true, true);
    y.begin('a');
    Check.same("a quiet one that does not lead", y.moves(0), 2);
    y.setMarks(2, 0, true, true);
    y.begin('a');
    Check.same("is passed over", y.moves(0), 1);
    Check.same("for the next one", y.reached(0, 0), code(0, 0, 1));
    y.setMarks(0, 0, true, true);
    y.begin('a');
    Check.same("the lowest-numbered one leads", y.reached(0, 0), code(1, 1, 0));
    Check.same("alone", y.moves(0), 1);
  }

  private static void movesOfStatesThatAreNotGoneOnFrom() {
    for (char mode : new char[] {'a', 'p', 's', 'h'}) {
      Statewarden x = chains(3, 3);
      x.begin(mode);
      Check.same("all moves of the start in " + mode, x.moves(0), 3);
      x.search(1);
      Check.same("also behind it in " + mode, x.moves(0), 3);
      Check.same("and of the next one in " + mode, x.moves(1), 3);
      Check.same("all are told in " + mode, x.reached(0, 2), code(0, 0, 1));
      Check.same("and asking makes none in " + mode, x.made(), mode == 'p' ? 1L : 3L);
    }
  }

  private static void wrongStatesAndMoves() {
    Statewarden x = chains(2, 1);
    Check.fails("no search comes first", STATE, () -> x.codeOf(-1));
    Check.fails("no search comes first", STATE, () -> x.variableIn(0, 9));
    x.begin('a');
    x.search(1);
    for (int state : new int[] {-1, 3, 2000, Integer.MAX_VALUE, Integer.MIN_VALUE}) {
      Check.fails("codeOf " + state, INDEX, () -> x.codeOf(state));
      Check.fails("moves " + state, INDEX, () -> x.moves(state));
      Check.fails("reached " + state, INDEX, () -> x.reached(state, 9));
      Check.fails("variableIn " + state, INDEX, () -> x.variableIn(state, 9));
    }
    for (int move : new int[] {-1, 2, Integer.MAX_VALUE, Integer.MIN_VALUE}) {
      Check.fails("reached by " + move, NONE, () -> x.reached(0, move));
    }
    for (int variable : new int[] {-1, 9, Integer.MAX_VALUE, Integer.MIN_VALUE}) {
      Check.fails("variable " + variable, ARGUMENT, () -> x.variableIn(0, variable));
    }
    Check.same("the last state", x.codeOf(2), code(0, 1, 0));
    Check.same("the last move", x.reached(0, 1), code(0, 1, 0));
  }

  /** The two own variables of three processes count freely: 4096 states. */
  private static Statewarden counters() {
    Statewarden x = with(3);
    for (int process = 0; process < 3; process++) {
      x.addStep(process, 0, 0, 'i', 3 + 2 * process, 1);
      x.addStep(process, 0, 0, 'i', 4 + 2 * process, 1);
    }
    return x;
  }

  private static void twoThousandStates() {
    Statewarden x = counters();
    x.begin('a');
    int sum = 0;
    for (int turn = 0; turn < 5; turn++) {
      sum += x.search(500);
    }
    Check.same("found by all searches", sum, 1999);
    Check.same("states", x.states(), 2000);
    Check.same("verdict", x.verdict(), '?');
    // 1212 states are less than 8 moves away, 1758 less than 9, 2338 less than 10.
    Check.same("goneOn", x.goneOn() > 1212 && x.goneOn() <= 1758, true);
    int last = x.goneOn() - 1;
    Check.same("the last move but one was made from the last one",
        x.made() > 6L * last && x.made() <= 6L * (last + 1), true);
    long reached = x.reached(last, (int) (x.made() - 6L * last) - 1);
    Check.same("the last move made reached the last state", x.codeOf(1999), reached);
    Check.same("it has ended", x.search(500), 0);
    Check.fails("no state behind it", INDEX, () -> x.codeOf(2000));
    Check.fails("no verdict 'n'", STATE, x::components);
    Check.same("sound", x.isSound(), true);
    for (char mode : new char[] {'p', 's'}) {
      x.begin(mode);
      for (int turn = 0; turn < 5; turn++) {
        x.search(500);
      }
      // Of 16 numbers three, in an order that does not count: 16 * 17 * 18 / 6.
      Check.same("states in " + mode, x.states(), mode == 's' ? 816 : 2000);
      Check.same("verdict in " + mode, x.verdict(), mode == 's' ? 'n' : '?');
    }
  }

  /** The process 2 comes to its last location in the state 1999, and not earlier. */
  private static Statewarden lastOfAll() {
    Statewarden x = with(3);
    for (int location = 1; location <= 5; location++) {
      x.addStep(0, 0, location, 'k', 0, 0);
    }
    for (int location = 0; location <= 5; location++) {
      x.addStep(0, location, location, 'i', 3, 1);
    }
    for (int location = 1; location <= 8; location++) {
      x.addStep(1, 0, location, 'k', 0, 0);
    }
    x.addStep(1, 1, 9, 'k', 0, 0);
    x.addStep(1, 1, 10, 'k', 0, 0);
    for (int location = 0; location < 10; location++) {
      x.addStep(2, location, location + 1, location == 9 ? 's' : 'k', 0, 1);
    }
    return x;
  }

  private static void faultInTheLastState() {
    Statewarden x = lastOfAll();
    for (boolean isWatched : new boolean[] {false, true}) {
      if (isWatched) {
        x.addInvariant(0, 1);
      }
      x.begin('a');
      for (int turn = 0; turn < 4; turn++) {
        x.search(500);
      }
      Check.same("states", x.states(), 2000);
      Check.same("the last state", x.variableIn(1999, 0), 1);
      Check.same("the last state but one", x.variableIn(1998, 0), 0);
      Check.same("verdict", x.verdict(), isWatched ? 'f' : '?');
      Check.same("sound", x.isSound(), true);
    }
    Check.same("the way to it", x.traceLength(), 10);
    Check.same("by the process 2", x.traceProcess(9), 2);
  }

  private static void exactlyTwoThousandStates() {
    for (int ring = 4; ring <= 5; ring++) {
      Statewarden x = with(3);
      for (int process = 0; process < 3; process++) {
        int places = process == 2 ? 5 : process == 1 ? 5 : ring;
        for (int location = 0; location < places; location++) {
          x.addStep(process, location, (location + 1) % places, 'k', 0, 0);
          if (process > 0) {
            x.addStep(process, location, location, 'i', 3 + 2 * process, 1);
          }
        }
      }
      x.begin('a');
      for (int turn = 0; turn < 5; turn++) {
        x.search(500);
      }
      Check.same("states", x.states(), 400 * ring);
      Check.same("verdict", x.verdict(), ring == 5 ? '?' : 'n');
      Check.same("all were gone on from", x.goneOn() == x.states(), ring == 4);
      if (ring == 5) {
        Check.fails("some left out", STATE, () -> x.recurs(0, 0, false));
      } else {
        Check.same("made", x.made(), 1600L * 5);
        Check.same("all in one", x.components(), 1);
      }
    }
  }

  private static void modeP() {
    Statewarden x = chains(2, 3);
    x.begin('a');
    Check.same("in 'a'", x.search(500), 15);
    x.begin('p');
    Check.same("in 'p'", x.search(500), 6);
    for (int state = 0; state < 7; state++) {
      Check.same("state " + state, x.codeOf(state),
          code(Math.min(state, 3), Math.max(state - 3, 0), 0));
    }
    Check.same("made", x.made(), 6L);
    Check.same("verdict", x.verdict(), 'n');
    Check.same("goneOn", x.goneOn(), 7);
    Check.fails("no answers on runs", STATE, x::components);
    Statewarden y = with(2);
    y.addStep(0, 0, 0, 'k', 0, 0);
    y.addStep(1, 0, 1, 'k', 0, 0);
    y.begin('p');
    Check.same("1 goes alone", y.search(1), 1);
    Check.same("made", y.made(), 1L);
    y.search(500);
    Check.same("then 0 with all others, as its move leads to what was found", y.made(), 2L);
    Check.same("states", y.states(), 2);
    y.begin('a');
    y.search(500);
    Check.same("made in 'a'", y.made(), 3L);
  }

  /** The process 0 has one step at the location 0, the process 1 a 'k'; who goes alone? */
  private static void alone(String what, int due, char kind, int a, int b, int[] invariant) {
    Statewarden x = with(2);
    x.addChannel(1);
    x.addStep(0, 0, 1, 'k', 0, 0);
    x.addStep(0, 0, 2, kind, a, b);
    x.addStep(0, 3, 3, 's', 0, 1);
    x.addStep(1, 0, 1, 'k', 0, 0);
    if (invariant.length > 0) {
      x.addInvariant(invariant[0], invariant[1]);
    }
    x.begin('p');
    x.search(1);
    Check.same(what + " is the first move", x.codeOf(1), due == 0 ? code(1, 0, 0) : code(0, 1, 0));
    int own = kind == '=' && b != 0 || kind == '!' && b == 0 ? 1 : 2;
    Check.same(what + ", moves made", x.made(), due == 0 ? (long) own : 1L);
  }

  private static void whoGoesAlone() {
    alone("'k'", 0, 'k', 0, 0, Check.row());
    alone("own 's'", 0, 's', 3, 1, Check.row());
    alone("own 'i'", 0, 'i', 4, 1, Check.row());
    alone("own '='", 0, '=', 4, 0, Check.row());
    alone("own '!'", 0, '!', 3, 1, Check.row());
    alone("own '=' that can't be done", 0, '=', 4, 1, Check.row());
    alone("an invariant of a shared one", 0, 'k', 0, 0, Check.row(0, 1));
    alone("an invariant of another's one", 0, 'k', 0, 0, Check.row(5, 1));
    alone("shared 's'", 1, 's', 0, 1, Check.row());
    alone("shared 'i'", 1, 'i', 2, 1, Check.row());
    alone("shared '='", 1, '=', 1, 0, Check.row());
    alone("shared '!'", 1, '!', 0, 1, Check.row());
    alone("shared '=' that can't be done", 1, '=', 1, 1, Check.row());
    alone("shared '!' that can't be done", 1, '!', 1, 0, Check.row());
    alone("own 'a'", 1, 'a', 3, 1, Check.row());
    alone("'w'", 1, 'w', 0, 3, Check.row());
    alone("'r' that can't be done", 1, 'r', 0, 3, Check.row());
    alone("an invariant of an own one", 1, 'k', 0, 0, Check.row(4, 1));
    fullInvariants();
    Statewarden w = with(2);
    w.addStep(0, 0, 1, 's', 2, 1);
    w.addStep(0, 0, 2, 'k', 0, 0);
    w.addStep(1, 0, 1, 'k', 0, 0);
    w.begin('p');
    w.search(1);
    Check.same("the first step counts too", w.codeOf(1), code(0, 1, 0));
    Statewarden x = with(2);
    x.addStep(0, 0, 1, 'k', 0, 0);
    x.addStep(0, 0, 0, 'k', 0, 0);
    x.addStep(1, 0, 1, 'k', 0, 0);
    x.begin('p');
    x.search(1);
    Check.same("none of its moves leads to what was found", x.codeOf(1), code(0, 1, 0));
    Statewarden y = with(2);
    y.addStep(0, 0, 1, '=', 3, 1);
    y.addStep(1, 0, 1, 'k', 0, 0);
    y.begin('p');
    y.search(1);
    Check.same("one that leads no moves", y.codeOf(1), code(0, 1, 0));
    Statewarden z = chains(2, 1);
    z.addStep(1, 0, 2, 's', 0, 1);
    z.setMarks(1, 0, true, true);
    z.begin('p');
    Check.same("none but the moves of the state", z.search(1), 2);
    Check.same("by the quiet one", z.codeOf(1), code(0, 1, 0));
    Check.same("both of its moves", z.made(), 2L);
  }

  private static void fullInvariants() {
    Statewarden x = chains(2, 1);
    for (int index = 0; index < 4; index++) {
      x.addInvariant(index % 3, 3);
    }
    for (char mode : new char[] {'a', 'p', 's', 'h'}) {
      x.begin(mode);
      x.search(500);
      Check.same("with all invariants there can be, in " + mode,
          x.states(), mode == 'a' || mode == 'h' ? 4 : 3);
    }
  }

  private static void modeS() {
    Statewarden x = chains(2, 2);
    x.begin('a');
    Check.same("in 'a'", x.search(500), 8);
    x.begin('s');
    Check.same("in 's'", x.search(500), 5);
    int[] firsts = {0, 0, 1, 0, 1, 2};
    int[] seconds = {0, 1, 1, 2, 2, 2};
    for (int state = 0; state < 6; state++) {
      Check.same("state " + state, x.codeOf(state), code(firsts[state], seconds[state], 0));
    }
    Check.same("made", x.made(), 8L);
    Check.same("verdict", x.verdict(), 'n');
    Check.same("the very state that a move reaches", x.reached(0, 0), code(1, 0, 0));
    Check.same("the other move", x.reached(0, 1), code(0, 1, 0));
    Check.same("moves of the state that was found", x.reached(3, 0), code(1, 2, 0));
    Check.same("one of them", x.moves(3), 1);
    Check.same("sound", x.isSound(), true);
    Check.fails("no answers on runs", STATE, x::components);
    x.addStep(1, 2, 2, 'k', 0, 0);
    x.begin('s');
    Check.same("not alike any more", x.search(500), 8);
  }

  private static void modeSWithOwnVariables() {
    Statewarden x = with(2);
    x.addStep(0, 0, 0, 'i', 4, 1);
    x.addStep(1, 0, 0, 'i', 6, 1);
    x.begin('a');
    Check.same("in 'a'", x.search(500), 15);
    x.begin('s');
    Check.same("in 's'", x.search(500), 9);
    Check.same("the lesser one comes first", x.variableIn(1, 4), 0);
    Check.same("the greater one comes behind", x.variableIn(1, 6), 1);
    Statewarden y = with(2);
    y.setStart(0, 1);
    y.setStart(3, 2);
    y.setStart(5, 2);
    for (int process = 0; process < 2; process++) {
      y.addStep(process, 0, 1, 's', 3 + 2 * process, 1);
      y.addStep(process, 1, 2, 'i', 4 + 2 * process, 3);
    }
    y.begin('s');
    y.search(500);
    Check.same("location and own ones go together", y.codeOf(1),
        Check.code(Check.row(0, 2, 0, 1, 1, 0, 0, 0, 0), Check.row(1, 0, 0), new int[6]));
    Check.same("the location counts ahead of own ones", y.codeOf(3),
        Check.code(Check.row(0, 2, 0, 2, 1, 3, 0, 0, 0), Check.row(1, 0, 0), new int[6]));
    Check.same("states", y.states(), 6);
  }

  private static void modeSAmongThree() {
    Statewarden x = chains(3, 2);
    x.begin('s');
    x.search(500);
    Check.same("all three are alike", x.states(), 10);
    for (int state = 0; state < 10; state++) {
      long code = x.codeOf(state);
      long first = code / code(1, 0, 0);
      long second = code / code(0, 1, 0) % 192 % 12;
      long third = code / code(0, 0, 1) % 192 % 12;
      Check.same("in their order", first <= second && second <= third, true);
    }
    x.setMarks(1, 7, false, false);
    x.begin('s');
    x.search(500);
    Check.same("0 and 2 are alike", x.states(), 18);
    Check.same("exchanged past 1", x.codeOf(1), code(0, 0, 1));
    x.setMarks(0, 7, false, false);
    x.begin('s');
    x.search(500);
    Check.same("0 and 1 are alike", x.codeOf(1), code(0, 1, 0));
    x.setMarks(2, 7, false, false);
    x.setMarks(0, 6, false, false);
    x.begin('s');
    x.search(500);
    Check.same("1 and 2 are alike, 0 moves", x.codeOf(1), code(1, 0, 0));
    Check.same("1 and 2 are alike, 1 moves", x.codeOf(2), code(0, 0, 1));
  }

  private static void modeH() {
    Statewarden x = with(1);
    x.addStep(0, 0, 1, 's', 3, 1);
    x.addStep(0, 1, 2, 's', 4, 3);
    x.addStep(0, 2, 7, 's', 0, 2);
    x.begin('a');
    Check.same("in 'a'", x.search(500), 3);
    Check.same("the same remainder", x.codeOf(3) % 509, x.codeOf(0) % 509);
    x.begin('h');
    Check.same("in 'h'", x.search(500), 2);
    Check.same("states", x.states(), 3);
    Check.same("goneOn", x.goneOn(), 3);
    Check.same("made", x.made(), 3L);
    Check.same("it may have left something out", x.verdict(), '?');
    Check.same("the move is still told", x.moves(2), 1);
    Check.same("sound", x.isSound(), true);
    Check.same("with the code in full", x.reached(2, 0),
        Check.code(Check.row(7, 1, 3, 0, 0, 0, 0, 0, 0), Check.row(2, 0, 0), new int[6]));
    x.addStep(0, 7, 8, 's', 0, 1);
    x.addInvariant(0, 1);
    x.begin('h');
    x.search(500);
    Check.same("a fault that is missed", x.verdict(), '?');
    x.begin('a');
    x.search(500);
    Check.same("is found in 'a'", x.verdict(), 'f');
  }

  private static void modeHEndsWithin509() {
    Statewarden x = counters();
    x.begin('h');
    for (int turn = 0; turn < 3; turn++) {
      x.search(500);
    }
    Check.same("all were gone on from", x.goneOn(), x.states());
    Check.same("509 at most", x.states() <= 509, true);
    Check.same("but many", x.states() > 400, true);
    Set<Long> remainders = new HashSet<>();
    for (int state = 0; state < 400; state++) {
      remainders.add(x.codeOf(state) % 509);
    }
    Check.same("each with a remainder of its own", remainders.size(), 400);
    Check.same("verdict", x.verdict(), '?');
  }
}
