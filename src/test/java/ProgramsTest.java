import java.util.NoSuchElementException;

/** Promises 1 to 8: how programs are laid. */
public final class ProgramsTest {
  private static final Class<IllegalArgumentException> ARGUMENT = IllegalArgumentException.class;
  private static final Class<IllegalStateException> STATE = IllegalStateException.class;
  private static final Class<IndexOutOfBoundsException> INDEX = IndexOutOfBoundsException.class;

  private ProgramsTest() {}

  public static void main(String[] args) {
    newObject();
    processes();
    stepsAreNumbered();
    stepsThatAreRefused();
    orderOfStepExceptions();
    channels();
    starts();
    marks();
    invariants();
    whatIsAlike();
    whatIsNotAlike();
    whatDropsTheSearch();
    whatIsRefusedDropsNothing();
    Check.end();
  }

  private static Statewarden with(int processes) {
    Statewarden x = new Statewarden();
    for (int count = 0; count < processes; count++) {
      x.addProcess();
    }
    return x;
  }

  private static void newObject() {
    Statewarden x = new Statewarden();
    Check.fails("no search, verdict", STATE, x::verdict);
    Check.fails("no search, states", STATE, x::states);
    Check.fails("no search, goneOn", STATE, x::goneOn);
    Check.fails("no search, made", STATE, x::made);
    Check.fails("no search, search", STATE, () -> x.search(0));
    Check.fails("no search, codeOf", STATE, () -> x.codeOf(0));
    Check.fails("no search, moves", STATE, () -> x.moves(-1));
    Check.fails("no search, reached", STATE, () -> x.reached(0, 0));
    Check.fails("no search, variableIn", STATE, () -> x.variableIn(0, 0));
    Check.fails("no search, fault", STATE, x::fault);
    Check.fails("no search, traceLength", STATE, x::traceLength);
    Check.fails("no search, traceProcess", STATE, () -> x.traceProcess(0));
    Check.fails("no search, traceStep", STATE, () -> x.traceStep(-1));
    Check.fails("no search, replays", STATE, x::replays);
    Check.fails("no search, components", STATE, x::components);
    Check.fails("no search, meanMoves", STATE, x::meanMoves);
    Check.fails("no search, newShare", STATE, x::newShare);
    Check.same("no search, isSound", x.isSound(), true);
    Check.fails("no process, addStep", INDEX, () -> x.addStep(0, 0, 0, 'k', 0, 0));
    Check.fails("no process, setMarks", INDEX, () -> x.setMarks(0, 0, true, true));
    Check.fails("no process, areAlike", INDEX, () -> x.areAlike(0, 0));
    Check.same("no process, begin", x.begin('a'), '?');
    Check.same("no process, code", x.codeOf(0), 0L);
    Check.same("no process, search", x.search(500), 0);
    Check.same("no process, no fault", x.verdict(), 'n');
    for (int variable = 0; variable < 9; variable++) {
      Check.same("start of " + variable, x.variableIn(0, variable), 0);
    }
  }

  private static void processes() {
    Statewarden x = new Statewarden();
    Check.same("addProcess", x.addProcess(), 0);
    Check.same("addProcess", x.addProcess(), 1);
    Check.same("addProcess", x.addProcess(), 2);
    Check.fails("addProcess, a fourth", STATE, x::addProcess);
    Check.fails("addProcess, a fifth", STATE, x::addProcess);
    Check.same("a new process has no steps", x.addStep(2, 0, 0, 'k', 0, 0), 0);
    Check.same("the location 0 is no end at first", x.begin('a'), '?');
    x.search(1);
    Check.same("other processes have no steps", x.moves(0), 1);
  }

  private static void stepsAreNumbered() {
    Statewarden x = with(2);
    for (int number = 0; number < 14; number++) {
      Check.same("addStep", x.addStep(0, 11, 0, 'k', 0, 0), number);
    }
    Check.fails("a step too many", STATE, () -> x.addStep(0, 11, 0, 'k', 0, 0));
    Check.same("each process counts for itself", x.addStep(1, 0, 11, 'k', 0, 0), 0);
    Check.same("any numbers for 'k'",
        x.addStep(1, 0, 0, 'k', Integer.MIN_VALUE, Integer.MAX_VALUE), 1);
    for (char kind : new char[] {'s', 'i', '=', '!', 'a'}) {
      Statewarden y = with(3);
      int number = 0;
      for (int variable : new int[] {0, 1, 2, 5, 6}) {
        Check.same("addStep " + kind, y.addStep(1, 0, 0, kind, variable, 3), number);
        number++;
      }
      Check.same("the own ones of 0", y.addStep(0, 0, 0, kind, 4, 0), 0);
      Check.same("the own ones of 2", y.addStep(2, 0, 0, kind, 8, 0), 0);
    }
  }

  private static void stepsThatAreRefused() {
    Statewarden x = with(3);
    x.addChannel(1);
    for (int process : new int[] {-1, 3, Integer.MAX_VALUE, Integer.MIN_VALUE}) {
      Check.fails("process " + process, INDEX, () -> x.addStep(process, 0, 0, 'k', 0, 0));
    }
    for (int location : new int[] {-1, 12, Integer.MAX_VALUE, Integer.MIN_VALUE}) {
      Check.fails("from " + location, ARGUMENT, () -> x.addStep(0, location, 0, 'k', 0, 0));
      Check.fails("to " + location, ARGUMENT, () -> x.addStep(0, 0, location, 'k', 0, 0));
    }
    for (char kind : new char[] {'x', 'K', 0, 'b', (char) 65535, 'q', 'd'}) {
      Check.fails("kind " + (int) kind, ARGUMENT, () -> x.addStep(0, 0, 0, kind, 0, 0));
    }
    for (char kind : new char[] {'s', 'i', '=', '!', 'a'}) {
      for (int variable : new int[] {-1, 5, 6, 7, 8, 9, Integer.MAX_VALUE, Integer.MIN_VALUE}) {
        Check.fails(kind + " of " + variable, ARGUMENT,
            () -> x.addStep(0, 0, 0, kind, variable, 0));
      }
      for (int variable : new int[] {3, 4, 7, 8}) {
        Check.fails(kind + " by 1 of " + variable, ARGUMENT,
            () -> x.addStep(1, 0, 0, kind, variable, 0));
      }
      for (int variable : new int[] {3, 4, 5, 6}) {
        Check.fails(kind + " by 2 of " + variable, ARGUMENT,
            () -> x.addStep(2, 0, 0, kind, variable, 0));
      }
      for (int number : new int[] {-1, 4, Integer.MAX_VALUE, Integer.MIN_VALUE}) {
        Check.fails(kind + " with " + number, ARGUMENT,
            () -> x.addStep(0, 0, 0, kind, 0, number));
      }
    }
    for (char kind : new char[] {'w', 'r'}) {
      for (int channel : new int[] {-1, 1, 2, Integer.MAX_VALUE, Integer.MIN_VALUE}) {
        Check.fails(kind + " at " + channel, ARGUMENT,
            () -> x.addStep(0, 0, 0, kind, channel, 0));
      }
      for (int variable : new int[] {-1, 5, 8, 9, Integer.MAX_VALUE}) {
        Check.fails(kind + " with " + variable, ARGUMENT,
            () -> x.addStep(0, 0, 0, kind, 0, variable));
      }
      Check.same(kind + " with an own one", x.addStep(0, 0, 0, kind, 0, 4), kind == 'w' ? 0 : 1);
    }
    Check.same("nothing was added by what was refused", x.addStep(0, 0, 0, 'k', 0, 0), 2);
  }

  private static void orderOfStepExceptions() {
    Statewarden x = with(1);
    for (int number = 0; number < 14; number++) {
      x.addStep(0, 0, 0, 'k', 0, 0);
    }
    Check.fails("first the process", INDEX, () -> x.addStep(1, 12, 0, 'x', 0, 0));
    Check.fails("then the location", ARGUMENT, () -> x.addStep(0, 12, 0, 'k', 0, 0));
    Check.fails("then the kind", ARGUMENT, () -> x.addStep(0, 0, 0, 'x', 0, 0));
    Check.fails("then the number", ARGUMENT, () -> x.addStep(0, 0, 0, 's', 0, 4));
    Check.fails("then the channel", ARGUMENT, () -> x.addStep(0, 0, 0, 'w', 0, 0));
    Check.fails("last the room for steps", STATE, () -> x.addStep(0, 0, 0, 's', 0, 3));
  }

  private static void channels() {
    Statewarden x = new Statewarden();
    for (int room : new int[] {-1, 3, Integer.MAX_VALUE, Integer.MIN_VALUE}) {
      Check.fails("a room of " + room, ARGUMENT, () -> x.addChannel(room));
    }
    Check.same("addChannel", x.addChannel(2), 0);
    Check.same("addChannel", x.addChannel(0), 1);
    Check.fails("a third channel", STATE, () -> x.addChannel(1));
    Check.fails("first the room", ARGUMENT, () -> x.addChannel(3));
  }

  private static void starts() {
    Statewarden x = new Statewarden();
    for (int variable = 0; variable < 9; variable++) {
      Check.same("setStart " + variable, x.setStart(variable, 3 - variable % 3), 0);
    }
    for (int variable = 0; variable < 9; variable++) {
      Check.same("setStart " + variable, x.setStart(variable, 0), 3 - variable % 3);
      x.setStart(variable, variable % 4);
    }
    for (int wrong : new int[] {-1, 9, Integer.MAX_VALUE, Integer.MIN_VALUE}) {
      Check.fails("setStart " + wrong, ARGUMENT, () -> x.setStart(wrong, 0));
    }
    for (int wrong : new int[] {-1, 4, Integer.MAX_VALUE, Integer.MIN_VALUE}) {
      Check.fails("setStart to " + wrong, ARGUMENT, () -> x.setStart(0, wrong));
    }
    x.begin('a');
    for (int variable = 0; variable < 9; variable++) {
      Check.same("in the state 0", x.variableIn(0, variable), variable % 4);
    }
  }

  private static void marks() {
    Statewarden x = with(2);
    Check.same("neither at first", x.setMarks(0, 0, false, false), false);
    Check.same("an end", x.setMarks(0, 0, true, false), true);
    Check.same("the same again", x.setMarks(0, 0, true, false), false);
    Check.same("quiet too", x.setMarks(0, 0, true, true), true);
    Check.same("the same again", x.setMarks(0, 0, true, true), false);
    Check.same("quiet alone", x.setMarks(0, 0, false, true), true);
    Check.same("the other one alone", x.setMarks(0, 0, true, false), true);
    Check.same("another location", x.setMarks(0, 11, false, false), false);
    Check.same("another process", x.setMarks(1, 0, false, false), false);
    Check.same("the last location", x.setMarks(1, 11, false, true), true);
    Check.same("kept", x.setMarks(0, 0, true, false), false);
    for (int wrong : new int[] {-1, 2, 3, Integer.MAX_VALUE}) {
      Check.fails("process " + wrong, INDEX, () -> x.setMarks(wrong, 12, true, true));
    }
    for (int wrong : new int[] {-1, 12, Integer.MAX_VALUE, Integer.MIN_VALUE}) {
      Check.fails("location " + wrong, ARGUMENT, () -> x.setMarks(1, wrong, true, true));
    }
  }

  private static void invariants() {
    Statewarden x = new Statewarden();
    for (int wrong : new int[] {-1, 9, Integer.MAX_VALUE, Integer.MIN_VALUE}) {
      Check.fails("variable " + wrong, ARGUMENT, () -> x.addInvariant(wrong, 0));
    }
    for (int wrong : new int[] {-1, 4, Integer.MAX_VALUE, Integer.MIN_VALUE}) {
      Check.fails("number " + wrong, ARGUMENT, () -> x.addInvariant(0, wrong));
    }
    Check.same("addInvariant", x.addInvariant(8, 3), 1);
    Check.same("the same once more counts", x.addInvariant(8, 3), 2);
    Check.same("addInvariant", x.addInvariant(0, 1), 3);
    Check.same("addInvariant", x.addInvariant(1, 2), 4);
    Check.fails("a fifth", STATE, () -> x.addInvariant(0, 0));
    Check.fails("first the arguments", ARGUMENT, () -> x.addInvariant(9, 0));
    Check.same("none of them is broken", x.begin('a'), '?');
    x.setStart(1, 2);
    Check.same("the last one is broken", x.begin('a'), 'f');
    Check.same("by the start", x.fault(), 'i');
  }

  /** Steps of all kinds, with own variables called by their place; 'k' with any numbers. */
  private static void layAll(Statewarden x, int process) {
    int own = 3 + 2 * process;
    x.addStep(process, 0, 1, 'k', 70 * process, process - 9);
    x.addStep(process, 1, 2, 's', own, 2);
    x.addStep(process, 2, 3, 'i', own + 1, 3);
    x.addStep(process, 3, 4, '=', 2, 1);
    x.addStep(process, 4, 5, '!', own, 1);
    x.addStep(process, 5, 6, 'a', own + 1, 0);
    x.addStep(process, 6, 7, 'w', 1, own);
    x.addStep(process, 7, 8, 'r', 0, own + 1);
    x.addStep(process, 8, 9, 'w', 0, 1);
  }

  private static Statewarden alike() {
    Statewarden x = with(3);
    x.addChannel(1);
    x.addChannel(0);
    for (int process = 0; process < 3; process++) {
      layAll(x, process);
      x.setMarks(process, 3, true, false);
      x.setMarks(process, 11, false, true);
      x.setStart(3 + 2 * process, 1);
      x.setStart(4 + 2 * process, 2);
    }
    return x;
  }

  private static void whatIsAlike() {
    Statewarden x = alike();
    for (int process = 0; process < 3; process++) {
      for (int other = 0; other < 3; other++) {
        Check.same("alike " + process + " " + other, x.areAlike(process, other), true);
      }
    }
    Check.same("two without steps", with(2).areAlike(0, 1), true);
    Check.same("the same one", with(1).areAlike(0, 0), true);
    for (int process = 0; process < 3; process++) {
      for (int number = 9; number < 14; number++) {
        x.addStep(process, 9, 9, 'i', 4 + 2 * process, number % 4);
      }
    }
    Check.same("with all the steps there can be", x.areAlike(2, 1), true);
    Check.same("with all the steps there can be", x.areAlike(0, 2), true);
    for (int wrong : new int[] {-1, 3, Integer.MAX_VALUE, Integer.MIN_VALUE}) {
      Check.fails("process " + wrong, INDEX, () -> x.areAlike(wrong, 0));
      Check.fails("other " + wrong, INDEX, () -> x.areAlike(0, wrong));
    }
    Check.fails("a process that is not yet there", INDEX, () -> with(2).areAlike(1, 2));
  }

  private interface Change {
    Object make(Statewarden x);
  }

  private static void unlike(String what, Change change) {
    Statewarden x = alike();
    change.make(x);
    Check.same(what + ", 1 and 0", x.areAlike(1, 0), false);
    Check.same(what + ", 1 and 2", x.areAlike(1, 2), false);
    Check.same(what + ", 2 and 1", x.areAlike(2, 1), false);
    Check.same(what + ", 0 and 2", x.areAlike(0, 2), true);
    Check.same(what + ", 1 and 1", x.areAlike(1, 1), true);
  }

  private static void whatIsNotAlike() {
    unlike("a step more", x -> x.addStep(1, 0, 1, 'k', 0, 0));
    unlike("an end more", x -> x.setMarks(1, 0, true, false));
    unlike("an end less", x -> x.setMarks(1, 3, false, false));
    unlike("a quiet one more", x -> x.setMarks(1, 10, false, true));
    unlike("an end for a quiet one", x -> x.setMarks(1, 11, true, false));
    unlike("another start", x -> x.setStart(5, 2));
    unlike("another second start", x -> x.setStart(6, 1));
    step("another from", 'k', 1, 0, 0, 0);
    step("another to", 'k', 0, 1, 0, 0);
    step("another kind", '=', 0, 0, 5, 0);
    pair("another variable", 's', 5, 0, 's', 8, 0);
    pair("another number", 's', 5, 0, 's', 7, 1);
    pair("a shared one for an own one", 's', 0, 0, 's', 7, 0);
    pair("another shared one", 'i', 0, 0, 'i', 1, 0);
    pair("another kind", 'i', 5, 0, 's', 7, 0);
    pair("'=' and '!'", '=', 5, 0, '!', 7, 0);
    pair("another channel", 'w', 0, 5, 'w', 1, 7);
    pair("another variable to send", 'w', 0, 5, 'w', 0, 8);
    pair("'w' and 'r'", 'w', 0, 5, 'r', 0, 7);
    Statewarden x = with(2);
    x.addStep(0, 0, 1, 'k', 0, 0);
    x.addStep(0, 1, 0, 'k', 0, 0);
    x.addStep(1, 1, 0, 'k', 0, 0);
    x.addStep(1, 0, 1, 'k', 0, 0);
    Check.same("other numbers of the steps", x.areAlike(0, 1), false);
  }

  private static void step(String what, char kind, int from, int to, int a, int b) {
    Statewarden x = with(2);
    x.addStep(0, 0, 0, 'k', 0, 0);
    x.addStep(1, from, to, kind, a, b);
    Check.same(what, x.areAlike(0, 1), false);
    Check.same(what, x.areAlike(1, 0), false);
  }

  private static void pair(
      String what, char kind, int a, int b, char otherKind, int otherA, int otherB) {
    Statewarden x = with(3);
    x.addChannel(0);
    x.addChannel(0);
    x.addStep(1, 0, 0, kind, a, b);
    x.addStep(2, 0, 0, otherKind, otherA, otherB);
    Check.same(what, x.areAlike(1, 2), false);
    Check.same(what, x.areAlike(2, 1), false);
  }

  private static void whatDropsTheSearch() {
    drops("addProcess", x -> x.addProcess());
    drops("addStep", x -> x.addStep(0, 0, 0, 'k', 0, 0));
    drops("addChannel", x -> x.addChannel(0));
    drops("setStart to what it is", x -> x.setStart(0, 0));
    drops("setMarks to what they are", x -> x.setMarks(0, 0, false, false));
    drops("addInvariant", x -> x.addInvariant(0, 3));
  }

  private static void drops(String what, Change change) {
    Statewarden x = with(2);
    x.begin('a');
    x.search(1);
    change.make(x);
    Check.fails(what + " drops the search", STATE, x::states);
    Check.fails(what + " drops the fault", STATE, x::fault);
    Check.fails(what + " drops the answers", STATE, x::components);
    Check.same(what + ", isSound", x.isSound(), true);
    Check.same(what + ", begin", x.begin('a'), '?');
    Check.same(what + ", begun anew", x.goneOn(), 0);
  }

  private static void whatIsRefusedDropsNothing() {
    Statewarden x = with(3);
    x.addChannel(0);
    x.addChannel(0);
    for (int count = 0; count < 4; count++) {
      x.addInvariant(0, 3);
    }
    for (int count = 0; count < 14; count++) {
      x.addStep(0, 0, 0, 'k', 0, 0);
    }
    x.begin('a');
    x.search(1);
    Check.fails("addProcess", STATE, x::addProcess);
    Check.fails("addStep", STATE, () -> x.addStep(0, 0, 0, 'k', 0, 0));
    Check.fails("addStep", ARGUMENT, () -> x.addStep(1, 0, 12, 'k', 0, 0));
    Check.fails("addStep", INDEX, () -> x.addStep(3, 0, 0, 'k', 0, 0));
    Check.fails("addChannel", STATE, () -> x.addChannel(0));
    Check.fails("addChannel", ARGUMENT, () -> x.addChannel(3));
    Check.fails("setStart", ARGUMENT, () -> x.setStart(9, 0));
    Check.fails("setMarks", INDEX, () -> x.setMarks(3, 0, false, false));
    Check.fails("setMarks", ARGUMENT, () -> x.setMarks(0, 12, false, false));
    Check.fails("addInvariant", STATE, () -> x.addInvariant(0, 0));
    Check.fails("addInvariant", ARGUMENT, () -> x.addInvariant(0, 4));
    Check.fails("areAlike", INDEX, () -> x.areAlike(0, 3));
    Check.fails("begin", ARGUMENT, () -> x.begin('b'));
    Check.same("areAlike leaves the search", x.areAlike(1, 2), true);
    Check.same("the search is still there", x.goneOn(), 1);
    Check.same("with its verdict", x.verdict(), 'n');
    Check.fails("and no fault", NoSuchElementException.class, x::fault);
  }
}
