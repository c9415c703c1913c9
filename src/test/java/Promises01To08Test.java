/** Promises 1 to 8, sentence by sentence: a new object, and how programs are laid. */
public final class Promises01To08Test {
  private static final Class<IllegalArgumentException> ARGUMENT = IllegalArgumentException.class;
  private static final Class<IllegalStateException> STATE = IllegalStateException.class;
  private static final Class<IndexOutOfBoundsException> INDEX = IndexOutOfBoundsException.class;

  private Promises01To08Test() {}

  public static void main(String[] args) {
    newObject();
    addProcess();
    addStep();
    numbersOfSteps();
    addStepRefuses();
    addChannel();
    setStart();
    setMarks();
    addInvariant();
    areAlike();
    Check.end();
  }

  /** Three processes, two channels, and a search that is on its way. */
  private static Statewarden laid() {
    Statewarden x = Make.chains(3, 2);
    x.addChannel(1);
    x.addChannel(2);
    x.setStart(3, 1);
    x.addInvariant(4, 3);
    x.begin('a');
    x.search(2);
    return x;
  }

  private static Statewarden processes(int count, char mode) {
    Statewarden x = Make.chains(count, 1);
    x.begin(mode);
    x.search(1);
    return x;
  }

  private static void newObject() {
    Sentences.of("Promise 1: A new object");
    Sentences.test("Creates a checker without processes", () -> {
      Check.fails("no process 0", INDEX, () -> new Statewarden().areAlike(0, 0));
      Check.fails("no steps for it", INDEX, () -> new Statewarden().addStep(0, 0, 0, 'k', 0, 0));
      Check.same("the first one", new Statewarden().addProcess(), 0);
      Statewarden x = new Statewarden();
      Check.same("nothing to do", Make.searchAll(x, 'a'), 'n');
      Check.same("one state", x.states(), 1);
      Check.same("without moves", x.moves(0), 0);
    });
    Sentences.test("and channels", () -> {
      Statewarden x = Make.with(1);
      Check.fails("no channel 0", ARGUMENT, () -> x.addStep(0, 0, 0, 'r', 0, 0));
      Check.same("the first one", new Statewarden().addChannel(0), 0);
    });
    Sentences.test("and without a search", () -> {
      Statewarden x = new Statewarden();
      Check.fails("verdict", STATE, x::verdict);
      Check.fails("search", STATE, () -> x.search(1));
      Check.fails("states", STATE, x::states);
      Check.fails("fault", STATE, x::fault);
      Check.fails("components", STATE, x::components);
      Check.fails("meanMoves", STATE, x::meanMoves);
      Check.same("isSound", x.isSound(), true);
    });
    Sentences.allTested();
  }

  private static void addProcess() {
    Sentences.of("Promise 2: addProcess");
    Sentences.test("Adds a process without steps.", () -> {
      for (int count = 0; count < 3; count++) {
        Statewarden x = processes(count, 'a');
        x.addProcess();
        x.begin('a');
        Check.same("the moves are those of the others", x.moves(0), count);
        Check.same("the first step", x.addStep(count, 0, 0, 'k', 0, 0), 0);
        x.begin('a');
        Check.same("then it has a step", x.moves(0), count + 1);
      }
    });
    Sentences.test("Returns the number of the process.", () -> {
      Statewarden x = new Statewarden();
      for (int process = 0; process < 3; process++) {
        Check.same("addProcess", x.addProcess(), process);
        x.addStep(process, 0, 0, 'k', 0, 0);
      }
      Statewarden y = processes(1, 'a');
      Check.same("behind a search", y.addProcess(), 1);
    });
    Sentences.test("Throws `IllegalStateException` if there are 3 processes", () -> {
      for (char mode : Make.MODES) {
        Look.refused("a fourth one", STATE, () -> processes(3, mode), Statewarden::addProcess);
      }
      Look.refused("without steps", STATE, () -> Make.with(3), Statewarden::addProcess);
      Check.same("a third one is not refused", Make.with(2).addProcess(), 2);
    });
    Sentences.allTested();
  }

  private static void addStep() {
    Sentences.of("Promise 3: addStep");
    Sentences.test("Adds a step to a process.", () -> {
      for (int process = 0; process < 3; process++) {
        Statewarden x = Make.ending(3);
        x.addStep(process, 0, 7, 'k', 0, 0);
        x.begin('a');
        Check.same("one move", x.moves(0), 1);
        Check.same("of that process", Make.location(x.reached(0, 0), process), 7);
      }
    });
    Sentences.test("`process`: the number of the process", () -> {
      for (int count = 1; count <= 3; count++) {
        Statewarden x = Make.with(count);
        Check.same("the last one", x.addStep(count - 1, 0, 0, 'k', 0, 0), 0);
        int behind = count;
        Check.fails("one behind", INDEX, () -> x.addStep(behind, 0, 0, 'k', 0, 0));
      }
    });
    Sentences.test("`from`: the location from which it leads, 0 to 11", () -> {
      for (int from = 0; from <= 11; from++) {
        Statewarden x = Make.ending(1);
        x.addStep(0, 0, from, 'k', 0, 0);
        x.addStep(0, from, 5, 's', 0, 1);
        Make.searchAll(x, 'a');
        Check.same("from " + from, x.variableIn(x.states() - 1, 0), 1);
      }
    });
    Sentences.test("`to`: the location to which it leads, 0 to 11", () -> {
      for (int to = 0; to <= 11; to++) {
        Statewarden x = Make.ending(1);
        Check.same("to " + to, x.addStep(0, 0, to, 'k', 0, 0), 0);
        x.begin('a');
        Check.same("reached", x.reached(0, 0), Make.at(to, 0, 0));
      }
    });
    Sentences.test("`kind`: its kind", () -> {
      Statewarden x = Make.with(1);
      x.addChannel(0);
      for (int number = 0; number < Make.KINDS.length; number++) {
        Check.same("kind", x.addStep(0, 0, 0, Make.KINDS[number], 0, 0), number);
      }
    });
    Sentences.test("Returns the number of the step.", () -> {
      Statewarden x = Make.with(3);
      for (int number = 0; number < 14; number++) {
        for (int process = 0; process < 3; process++) {
          Check.same("of " + process, x.addStep(process, process, 11, 'k', 0, 0), number);
        }
      }
    });
  }

  private static void numbersOfSteps() {
    Sentences.test("`a`: its first number: a variable, or a channel for 'w' and 'r', and any number"
        + " for 'k'", () -> {
      for (char kind : new char[] {'s', 'i', '=', '!', 'a'}) {
        Statewarden x = Make.with(3);
        for (int variable = 0; variable < 3; variable++) {
          Check.same("shared", x.addStep(0, 0, 0, kind, variable, 0), variable);
        }
        for (int variable = 3; variable < 9; variable++) {
          int process = (variable - 3) / 2;
          Check.same("own", x.addStep(process, 0, 0, kind, variable, 0) >= 0, true);
        }
        Check.fails("no variable 9", ARGUMENT, () -> x.addStep(2, 0, 0, kind, 9, 0));
        Check.fails("no variable -1", ARGUMENT, () -> x.addStep(0, 0, 0, kind, -1, 0));
      }
      for (char kind : new char[] {'w', 'r'}) {
        Statewarden x = Make.with(1);
        x.addChannel(0);
        Check.same("the channel 0", x.addStep(0, 0, 0, kind, 0, 0), 0);
        Check.fails("no channel 1", ARGUMENT, () -> x.addStep(0, 0, 0, kind, 1, 0));
        x.addChannel(0);
        Check.same("the channel 1", x.addStep(0, 0, 0, kind, 1, 0), 1);
        Check.fails("no channel 3, as there is a variable", ARGUMENT,
            () -> x.addStep(0, 0, 0, kind, 3, 0));
      }
      Statewarden y = Make.with(1);
      int number = 0;
      for (int any : new int[] {Integer.MIN_VALUE, -1, 9, 5, Integer.MAX_VALUE}) {
        Check.same("'k' with " + any, y.addStep(0, 0, 0, 'k', any, 0), number);
        number++;
      }
    });
    Sentences.test("`b`: its second number: 0 to 3, or a variable for 'w' and 'r', and any number"
        + " for 'k'", () -> {
      for (char kind : new char[] {'s', 'i', '=', '!', 'a'}) {
        Statewarden x = Make.with(1);
        for (int number = 0; number <= 3; number++) {
          Check.same("a number", x.addStep(0, 0, 0, kind, 3, number), number);
        }
        Check.fails("no 4", ARGUMENT, () -> x.addStep(0, 0, 0, kind, 3, 4));
        Check.fails("no -1", ARGUMENT, () -> x.addStep(0, 0, 0, kind, 3, -1));
      }
      for (char kind : new char[] {'w', 'r'}) {
        Statewarden x = Make.with(3);
        x.addChannel(2);
        for (int variable = 0; variable < 3; variable++) {
          Check.same("shared", x.addStep(2, 0, 0, kind, 0, variable), variable);
        }
        for (int variable = 3; variable < 9; variable++) {
          int process = (variable - 3) / 2;
          Check.same("own", x.addStep(process, 0, 0, kind, 0, variable) >= 0, true);
        }
        Check.fails("no variable 9", ARGUMENT, () -> x.addStep(2, 0, 0, kind, 0, 9));
        Check.fails("no variable -1", ARGUMENT, () -> x.addStep(2, 0, 0, kind, 0, -1));
      }
      Statewarden y = Make.with(1);
      int number = 0;
      for (int any : new int[] {Integer.MIN_VALUE, -1, 4, 9, Integer.MAX_VALUE}) {
        Check.same("'k' with " + any, y.addStep(0, 0, 0, 'k', 0, any), number);
        number++;
      }
    });
  }

  private static void addStepRefuses() {
    Sentences.test("Throws `IndexOutOfBoundsException` if there is no such process", () -> {
      for (int process : new int[] {Integer.MIN_VALUE, -1, 3, 4, Integer.MAX_VALUE}) {
        Look.refused("the process " + process, INDEX, Promises01To08Test::laid,
            x -> x.addStep(process, 0, 0, 'k', 0, 0));
        Look.refused("ahead of all else", INDEX, Promises01To08Test::laid,
            x -> x.addStep(process, 12, -1, 'x', 9, 9));
      }
      Look.refused("not yet there", INDEX, () -> processes(2, 'p'),
          x -> x.addStep(2, 0, 0, 'k', 0, 0));
    });
    Sentences.test("Throws `IllegalArgumentException` if there is no such location", () -> {
      for (int location : new int[] {Integer.MIN_VALUE, -1, 12, Integer.MAX_VALUE}) {
        for (char kind : Make.KINDS) {
          Look.refused("from " + location, ARGUMENT, Promises01To08Test::laid,
              x -> x.addStep(1, location, 0, kind, 0, 0));
          Look.refused("to " + location, ARGUMENT, Promises01To08Test::laid,
              x -> x.addStep(1, 0, location, kind, 0, 0));
        }
      }
    });
    Sentences.test("or kind", () -> {
      for (char kind : new char[] {0, ' ', 'K', 'S', 'b', 'd', 'h', 'j', 'l', 'q', 't', 'v', 'x',
        '<', '>', '"', (char) 65535}) {
        Look.refused("the kind " + (int) kind, ARGUMENT, Promises01To08Test::laid,
            x -> x.addStep(0, 0, 0, kind, 0, 0));
      }
    });
    Sentences.test("a number is out of range", () -> {
      for (char kind : new char[] {'s', 'i', '=', '!', 'a'}) {
        for (int number : new int[] {Integer.MIN_VALUE, -1, 4, Integer.MAX_VALUE}) {
          Look.refused(kind + " with " + number, ARGUMENT, Promises01To08Test::laid,
              x -> x.addStep(0, 0, 0, kind, 0, number));
        }
        for (int variable : new int[] {Integer.MIN_VALUE, -1, 9, Integer.MAX_VALUE}) {
          Look.refused(kind + " of " + variable, ARGUMENT, Promises01To08Test::laid,
              x -> x.addStep(2, 0, 0, kind, variable, 0));
        }
      }
      for (char kind : new char[] {'w', 'r'}) {
        for (int variable : new int[] {Integer.MIN_VALUE, -1, 9, Integer.MAX_VALUE}) {
          Look.refused(kind + " with " + variable, ARGUMENT, Promises01To08Test::laid,
              x -> x.addStep(2, 0, 0, kind, 0, variable));
        }
      }
    });
    Sentences.test("a variable is one of another process", () -> {
      for (int process = 0; process < 3; process++) {
        for (int variable = 3; variable < 9; variable++) {
          if ((variable - 3) / 2 != process) {
            int one = process;
            int other = variable;
            Look.refused(one + " and " + other, ARGUMENT, Promises01To08Test::laid,
                x -> x.addStep(one, 0, 0, 'i', other, 0));
            Look.refused(one + " and " + other, ARGUMENT, Promises01To08Test::laid,
                x -> x.addStep(one, 0, 0, 'r', 0, other));
          }
        }
      }
      Look.refused("one of a process that there is not", ARGUMENT, () -> processes(1, 'a'),
          x -> x.addStep(0, 0, 0, 's', 5, 0));
    });
    Sentences.test("or there is no such channel", () -> {
      for (char kind : new char[] {'w', 'r'}) {
        for (int channel : new int[] {Integer.MIN_VALUE, -1, 2, Integer.MAX_VALUE}) {
          Look.refused(kind + " at " + channel, ARGUMENT, Promises01To08Test::laid,
              x -> x.addStep(0, 0, 0, kind, channel, 0));
        }
        Look.refused(kind + " without channels", ARGUMENT, () -> processes(1, 's'),
            x -> x.addStep(0, 0, 0, kind, 0, 0));
      }
    });
    Sentences.test("Throws `IllegalStateException` if the process has 14 steps", () -> {
      for (int process = 0; process < 3; process++) {
        int full = process;
        Look.Script script = () -> full(full);
        Look.refused("a fifteenth one", STATE, script, x -> x.addStep(full, 0, 0, 'k', 0, 0));
        Look.refused("the location comes first", ARGUMENT, script,
            x -> x.addStep(full, 12, 0, 'k', 0, 0));
        Look.refused("the number comes first", ARGUMENT, script,
            x -> x.addStep(full, 0, 0, 's', 0, 4));
        Look.refused("the kind comes first", ARGUMENT, script,
            x -> x.addStep(full, 0, 0, 'x', 0, 0));
        Check.same("another process", script.make().addStep((full + 1) % 3, 0, 0, 'k', 0, 0), 2);
      }
    });
    Sentences.allTested();
  }

  private static Statewarden full(int process) {
    Statewarden x = laid();
    for (int number = 2; number < 14; number++) {
      Check.same("room for the step " + number, x.addStep(process, 11, 0, 'k', 0, 0), number);
    }
    x.begin('s');
    return x;
  }

  private static void addChannel() {
    Sentences.of("Promise 4: addChannel");
    Sentences.test("Adds a channel.", () -> {
      Statewarden x = Make.ending(1);
      x.addChannel(1);
      x.addStep(0, 0, 1, 'w', 0, 0);
      x.begin('a');
      Check.same("it can be sent into", x.moves(0), 1);
    });
    Sentences.test("`room`: its room, 0 to 2", () -> {
      for (int first = 0; first <= 2; first++) {
        for (int second = 0; second <= 2; second++) {
          Statewarden x = Make.ending(1);
          x.addChannel(first);
          x.addChannel(second);
          x.addStep(0, 0, 0, 'w', 0, 0);
          x.addStep(0, 0, 0, 'w', 1, 0);
          Make.searchAll(x, 'a');
          Check.same("states", x.states(), (first + 1) * (second + 1));
        }
      }
    });
    Sentences.test("Returns the number of the channel.", () -> {
      Statewarden x = new Statewarden();
      Check.same("the first one", x.addChannel(2), 0);
      Check.same("the second one", x.addChannel(2), 1);
    });
    Sentences.test("Throws `IllegalArgumentException` if the room is out of range", () -> {
      for (int room : new int[] {Integer.MIN_VALUE, -1, 3, Integer.MAX_VALUE}) {
        Look.refused("a room of " + room, ARGUMENT, () -> processes(2, 'a'),
            x -> x.addChannel(room));
        Look.refused("also if there are 2 channels", ARGUMENT, Promises01To08Test::laid,
            x -> x.addChannel(room));
      }
    });
    Sentences.test("Throws `IllegalStateException` if there are 2 channels", () -> {
      for (int room = 0; room <= 2; room++) {
        int asked = room;
        Look.refused("a third one", STATE, Promises01To08Test::laid, x -> x.addChannel(asked));
      }
    });
    Sentences.allTested();
  }

  private static void setStart() {
    Sentences.of("Promise 5: setStart");
    Sentences.test("Sets the start of a variable.", () -> {
      for (int set = 0; set < 9; set++) {
        Statewarden x = new Statewarden();
        x.setStart(set, 3);
        x.begin('a');
        for (int variable = 0; variable < 9; variable++) {
          int due = variable == set ? 3 : 0;
          Check.same("the start of " + variable, x.variableIn(0, variable), due);
        }
      }
    });
    Sentences.test("`variable`: the variable, 0 to 8", () -> {
      for (int processes = 0; processes <= 3; processes++) {
        Statewarden x = Make.with(processes);
        for (int variable = 0; variable <= 8; variable++) {
          Check.same("setStart " + variable, x.setStart(variable, 1), 0);
        }
      }
    });
    Sentences.test("`value`: the number, 0 to 3", () -> {
      for (int number = 0; number <= 3; number++) {
        Statewarden x = new Statewarden();
        x.setStart(8, number);
        x.begin('a');
        Check.same("the number", x.variableIn(0, 8), number);
      }
    });
    Sentences.test("Returns the number before the call.", () -> {
      Statewarden x = new Statewarden();
      int[] numbers = {3, 3, 0, 2, 1, 0};
      int before = 0;
      for (int number : numbers) {
        Check.same("behind " + before, x.setStart(4, number), before);
        before = number;
      }
      Check.same("another one has its own", x.setStart(5, 1), 0);
    });
    Sentences.test("Throws `IllegalArgumentException` if there is no such variable", () -> {
      for (int variable : new int[] {Integer.MIN_VALUE, -1, 9, Integer.MAX_VALUE}) {
        Look.refused("the variable " + variable, ARGUMENT, Promises01To08Test::laid,
            x -> x.setStart(variable, 1));
      }
    });
    Sentences.test("or the number is out of range", () -> {
      for (int number : new int[] {Integer.MIN_VALUE, -1, 4, Integer.MAX_VALUE}) {
        for (int variable = 0; variable < 9; variable++) {
          int asked = variable;
          Look.refused(asked + " to " + number, ARGUMENT, Promises01To08Test::laid,
              x -> x.setStart(asked, number));
        }
      }
    });
    Sentences.allTested();
  }

  private static void setMarks() {
    Sentences.of("Promise 6: setMarks");
    Sentences.test("Sets the marks of a location of a process.", () -> {
      for (int process = 0; process < 2; process++) {
        Statewarden x = Make.with(2);
        x.setMarks(process, 0, true, false);
        Check.same("one is at an end", Make.searchAll(x, 'a'), 'f');
        x.setMarks(1 - process, 1, true, false);
        Check.same("another location", Make.searchAll(x, 'a'), 'f');
        x.setMarks(1 - process, 0, true, false);
        Check.same("both are", Make.searchAll(x, 'a'), 'n');
        x.setMarks(process, 0, false, false);
        Check.same("one is not any more", Make.searchAll(x, 'a'), 'f');
      }
    });
    Sentences.test("`process`: the number of the process", () -> {
      for (int count = 1; count <= 3; count++) {
        Statewarden x = Make.with(count);
        int behind = count;
        Check.same("the last one", x.setMarks(count - 1, 0, true, true), true);
        Check.fails("one behind", INDEX, () -> x.setMarks(behind, 0, true, true));
      }
    });
    Sentences.test("`location`: the location, 0 to 11", () -> {
      for (int location = 0; location <= 11; location++) {
        Statewarden x = Make.with(1);
        if (location > 0) {
          x.addStep(0, 0, location, 'k', 0, 0);
        }
        Check.same("another location", x.setMarks(0, (location + 1) % 12, true, false), true);
        Check.same("stuck at " + location, Make.searchAll(x, 'a'), 'f');
        Check.same("the location " + location, x.setMarks(0, location, true, false), true);
        Check.same("an end at " + location, Make.searchAll(x, 'a'), 'n');
      }
    });
    Sentences.test("`isEnd`: whether it is an end", () -> {
      Statewarden x = Make.with(1);
      x.setMarks(0, 0, false, true);
      Check.same("quiet alone", Make.searchAll(x, 'a'), 'f');
      x.setMarks(0, 0, true, true);
      Check.same("an end too", Make.searchAll(x, 'a'), 'n');
    });
    Sentences.test("`isQuiet`: whether it is quiet", () -> {
      Statewarden x = Make.chains(2, 1);
      x.setMarks(1, 0, true, false);
      x.begin('a');
      Check.same("an end alone", x.moves(0), 2);
      x.setMarks(1, 0, true, true);
      x.begin('a');
      Check.same("quiet too", x.moves(0), 1);
    });
    Sentences.test("Returns whether one of both is another one than before.", () -> {
      for (int before = 0; before < 4; before++) {
        for (int behind = 0; behind < 4; behind++) {
          Statewarden x = Make.with(3);
          x.setMarks(2, 11, before % 2 == 1, before > 1);
          Check.same(before + " and " + behind,
              x.setMarks(2, 11, behind % 2 == 1, behind > 1), before != behind);
          Check.same("kept", x.setMarks(2, 11, behind % 2 == 1, behind > 1), false);
          Check.same("another location", x.setMarks(2, 10, false, false), false);
          Check.same("another process", x.setMarks(1, 11, false, false), false);
        }
      }
    });
    Sentences.test("Throws `IndexOutOfBoundsException` if there is no such process", () -> {
      for (int process : new int[] {Integer.MIN_VALUE, -1, 3, Integer.MAX_VALUE}) {
        Look.refused("the process " + process, INDEX, Promises01To08Test::laid,
            x -> x.setMarks(process, 0, false, true));
        Look.refused("ahead of the location", INDEX, Promises01To08Test::laid,
            x -> x.setMarks(process, 12, false, true));
      }
      Look.refused("not yet there", INDEX, () -> processes(1, 'h'),
          x -> x.setMarks(1, 0, false, true));
    });
    Sentences.test("Throws `IllegalArgumentException` if there is no such location", () -> {
      for (int location : new int[] {Integer.MIN_VALUE, -1, 12, Integer.MAX_VALUE}) {
        for (int process = 0; process < 3; process++) {
          int one = process;
          Look.refused("the location " + location, ARGUMENT, Promises01To08Test::laid,
              x -> x.setMarks(one, location, false, true));
        }
      }
    });
    Sentences.allTested();
  }

  private static void addInvariant() {
    Sentences.of("Promise 7: addInvariant");
    Sentences.test("Adds an invariant: a variable must never be a number.", () -> {
      Statewarden x = Make.ending(1);
      x.addStep(0, 0, 0, 'i', 3, 1);
      Check.same("it may", Make.searchAll(x, 'a'), 'n');
      x.addInvariant(3, 3);
      Check.same("it must not", Make.searchAll(x, 'a'), 'f');
      Check.same("the fault", x.fault(), 'i');
      Check.same("behind three moves", x.traceLength(), 3);
      x.addInvariant(3, 2);
      Make.searchAll(x, 'a');
      Check.same("the second one too", x.traceLength(), 2);
    });
    Sentences.test("`variable`: the variable, 0 to 8", () -> {
      for (int variable = 0; variable <= 8; variable++) {
        Statewarden x = new Statewarden();
        x.setStart(variable, 1);
        Check.same("addInvariant", x.addInvariant(variable, 1), 1);
        Check.same("it is broken", x.begin('a'), 'f');
      }
    });
    Sentences.test("`value`: the number, 0 to 3", () -> {
      for (int number = 0; number <= 3; number++) {
        Statewarden x = new Statewarden();
        x.setStart(0, number);
        Check.same("addInvariant", x.addInvariant(0, number), 1);
        Check.same("it is broken", x.begin('a'), 'f');
      }
    });
    Sentences.test("Returns the number of invariants.", () -> {
      Statewarden x = new Statewarden();
      Check.same("one", x.addInvariant(0, 3), 1);
      Check.same("the same once more", x.addInvariant(0, 3), 2);
      Check.same("three", x.addInvariant(8, 0), 3);
      Check.same("four", x.addInvariant(8, 1), 4);
    });
    Sentences.test("Throws `IllegalArgumentException` if there is no such variable", () -> {
      for (int variable : new int[] {Integer.MIN_VALUE, -1, 9, Integer.MAX_VALUE}) {
        Look.refused("the variable " + variable, ARGUMENT, Promises01To08Test::laid,
            x -> x.addInvariant(variable, 3));
        Look.refused("also if there are 4", ARGUMENT, Promises01To08Test::watched,
            x -> x.addInvariant(variable, 3));
      }
    });
    Sentences.test("or the number is out of range", () -> {
      for (int number : new int[] {Integer.MIN_VALUE, -1, 4, Integer.MAX_VALUE}) {
        Look.refused("the number " + number, ARGUMENT, Promises01To08Test::laid,
            x -> x.addInvariant(8, number));
        Look.refused("also if there are 4", ARGUMENT, Promises01To08Test::watched,
            x -> x.addInvariant(0, number));
      }
    });
    Sentences.test("Throws `IllegalStateException` if there are 4 invariants", () -> {
      Look.refused("a fifth one", STATE, Promises01To08Test::watched, x -> x.addInvariant(2, 3));
      Look.refused("as there is one", STATE, Promises01To08Test::watched,
          x -> x.addInvariant(4, 3));
    });
    Sentences.allTested();
  }

  private static Statewarden watched() {
    Statewarden x = laid();
    for (int count = 2; count <= 4; count++) {
      Check.same("room for the invariant", x.addInvariant(4, 3), count);
    }
    x.begin('a');
    return x;
  }

  private static void areAlike() {
    Sentences.of("Promise 8: areAlike");
    Sentences.test("Tells whether two processes are alike.", () -> {
      Statewarden x = Make.with(3);
      x.addStep(0, 0, 1, 'i', 4, 1);
      x.addStep(2, 0, 1, 'i', 8, 1);
      Check.same("0 and 2", x.areAlike(0, 2), true);
      Check.same("2 and 0", x.areAlike(2, 0), true);
      Check.same("0 and 1", x.areAlike(0, 1), false);
      Check.same("1 and 2", x.areAlike(1, 2), false);
    });
    Sentences.test("`process`: the number of a process", () -> {
      Statewarden x = Make.with(3);
      for (int process = 0; process < 3; process++) {
        Check.same("the process " + process, x.areAlike(process, 0), true);
      }
    });
    Sentences.test("`other`: the number of another process, or of the same one", () -> {
      Statewarden x = laid();
      for (int process = 0; process < 3; process++) {
        Check.same("itself", x.areAlike(process, process), true);
      }
      Check.same("another one", x.areAlike(1, 2), true);
      Check.same("with another start", x.areAlike(1, 0), false);
    });
    Sentences.test("Returns whether they are.", () -> {
      Statewarden x = Make.with(2);
      Check.same("without steps", x.areAlike(0, 1), true);
      x.setMarks(1, 11, true, false);
      Check.same("with another mark", x.areAlike(0, 1), false);
      x.setMarks(0, 11, true, false);
      Check.same("with the same one", x.areAlike(0, 1), true);
    });
    Sentences.test("Throws `IndexOutOfBoundsException` if there is no such process, for"
        + " either", () -> {
      for (int process : new int[] {Integer.MIN_VALUE, -1, 3, Integer.MAX_VALUE}) {
        Look.refused("the process " + process, INDEX, Promises01To08Test::laid,
            x -> x.areAlike(process, 2));
        Look.refused("the other one " + process, INDEX, Promises01To08Test::laid,
            x -> x.areAlike(2, process));
        Look.refused("both " + process, INDEX, Promises01To08Test::laid,
            x -> x.areAlike(process, process));
      }
      for (int count = 0; count < 3; count++) {
        int behind = count;
        Look.refused("not yet there", INDEX, () -> processes(behind, 'a'),
            x -> x.areAlike(0, behind));
        Look.refused("not yet there", INDEX, () -> processes(behind, 'a'),
            x -> x.areAlike(behind, 0));
      }
    });
    Sentences.allTested();
  }
}
