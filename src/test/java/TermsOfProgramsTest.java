import java.util.Arrays;

/** The terms of programs, steps, marks and states, sentence by sentence. */
public final class TermsOfProgramsTest {
  private static final Class<IllegalArgumentException> ARGUMENT = IllegalArgumentException.class;
  private static final Class<IllegalStateException> STATE = IllegalStateException.class;
  private static final Class<IndexOutOfBoundsException> INDEX = IndexOutOfBoundsException.class;

  private TermsOfProgramsTest() {}

  public static void main(String[] args) {
    calls();
    Sentences.ofTerm("Programs");
    processes();
    variables();
    channels();
    dropping();
    Sentences.allTested();
    Sentences.ofTerm("Steps");
    leading();
    kindsWithVariables();
    kindsWithChannels();
    channelsWithoutRoom();
    Sentences.allTested();
    Sentences.ofTerm("Marks");
    marks();
    Sentences.allTested();
    Sentences.ofTerm("States");
    whatStatesHave();
    orderOfMoves();
    leaders();
    quietLocations();
    codes();
    codesOfChannels();
    Sentences.allTested();
    Check.end();
  }

  // ---- What it is

  private static void calls() {
    Sentences.of("What it is");
    Sentences.test("An object is used for at most 512 calls after it has been made", () -> {
      Statewarden x = new Statewarden();
      for (int call = 1; call <= 508; call++) {
        Check.same("call " + call, x.setStart(call % 9, call % 4), call <= 9 ? 0 : (call - 9) % 4);
      }
      Check.same("the call 509", x.addProcess(), 0);
      Check.same("the call 510", x.addStep(0, 0, 0, 'k', 0, 0), 0);
      Check.same("the call 511", x.begin('a'), '?');
      Check.same("the call 512", x.search(500), 0);
    });
  }

  // ---- Programs

  private static void processes() {
    Sentences.test("There are at most 3 processes, numbered from 0.", () -> {
      Statewarden x = new Statewarden();
      for (int process = 0; process < 3; process++) {
        Check.same("addProcess", x.addProcess(), process);
      }
      Check.fails("a fourth one", STATE, x::addProcess);
      Check.fails("no process 3", INDEX, () -> x.setMarks(3, 0, true, true));
      Check.fails("no process -1", INDEX, () -> x.setMarks(-1, 0, true, true));
      Check.same("the process 2", x.setMarks(2, 0, true, true), true);
    });
    Sentences.test("A process has the locations 0 to 11", () -> {
      Statewarden x = Make.chains(1, 11);
      x.addStep(0, 11, 0, 'k', 0, 0);
      Check.same("a ring", Make.searchAll(x, 'a'), 'n');
      Check.same("its states", x.states(), 12);
      for (int location = 0; location < 12; location++) {
        Check.same("the location", x.codeOf(location), Make.at(location, 0, 0));
      }
      Check.fails("from 12", ARGUMENT, () -> x.addStep(0, 12, 0, 'k', 0, 0));
      Check.fails("to -1", ARGUMENT, () -> x.addStep(0, 0, -1, 'k', 0, 0));
    });
    Sentences.test("begins at the location 0", () -> {
      Statewarden x = Make.ending(3);
      for (int process = 0; process < 3; process++) {
        x.addStep(process, 1, 0, 'k', 0, 0);
        x.addStep(process, 11, 0, 'k', 0, 0);
      }
      x.begin('a');
      Check.same("the start", x.codeOf(0), 0L);
      Check.same("no step from 0", x.moves(0), 0);
      x.addStep(1, 0, 11, 'k', 0, 0);
      x.begin('a');
      Check.same("one step from 0", x.moves(0), 1);
    });
    Sentences.test("and has at most 14 steps", () -> {
      Statewarden x = Make.with(3);
      for (int process = 0; process < 3; process++) {
        int one = process;
        for (int number = 0; number < 14; number++) {
          x.addStep(one, 0, number % 12, 'k', 0, 0);
        }
        Check.fails("a fifteenth one", STATE, () -> x.addStep(one, 0, 0, 'k', 0, 0));
      }
      x.begin('a');
      Check.same("all are there", x.moves(0), 42);
    });
    Sentences.test("numbered from 0 in the order in which they were added", () -> {
      Statewarden x = Make.with(2);
      for (int number = 0; number < 14; number++) {
        int from = number == 9 ? 0 : 11 - number % 10;
        Check.same("of the process 1", x.addStep(1, from, 1, 'k', 0, 0), number);
        Check.same("of the process 0", x.addStep(0, 11, number % 12, 'k', 0, 0), number);
      }
      Check.same("a fault", Make.searchAll(x, 'a'), 'f');
      Check.same("the first one from 0", x.traceStep(0), 9);
    });
  }

  private static void variables() {
    Sentences.test("There are the variables 0 to 8", () -> {
      Statewarden x = new Statewarden();
      for (int variable = 0; variable <= 8; variable++) {
        x.setStart(variable, 1 + variable % 3);
      }
      x.begin('a');
      for (int variable = 0; variable <= 8; variable++) {
        Check.same("the variable " + variable, x.variableIn(0, variable), 1 + variable % 3);
      }
      Check.fails("no variable 9", ARGUMENT, () -> x.setStart(9, 0));
      Check.fails("no variable -1", ARGUMENT, () -> x.setStart(-1, 0));
    });
    Sentences.test("each of which holds a number from 0 to 3", () -> {
      for (int variable = 0; variable <= 8; variable++) {
        Statewarden x = Make.ending(3);
        int one = variable;
        x.addStep(one < 3 ? 0 : (one - 3) / 2, 0, 0, 'i', one, 1);
        Make.searchAll(x, 'a');
        Check.same("all of its numbers", x.states(), 4);
        for (int number = 0; number < 4; number++) {
          Check.same("a number", x.variableIn(number, one), number);
        }
        Check.fails("no 4", ARGUMENT, () -> x.setStart(one, 4));
        Check.fails("no -1", ARGUMENT, () -> x.setStart(one, -1));
      }
    });
    Sentences.test("0 to 2 are shared, 3 and 4 are the own ones of the process 0, 5 and 6 those of"
        + " the process 1, 7 and 8 those of the process 2", () -> {
      for (int process = 0; process < 3; process++) {
        for (int variable = 0; variable < 9; variable++) {
          Statewarden x = Make.with(3);
          int one = process;
          int asked = variable;
          if (asked < 3 || asked == 3 + 2 * one || asked == 4 + 2 * one) {
            Check.same(one + " uses " + asked, x.addStep(one, 0, 0, 's', asked, 1), 0);
          } else {
            Check.fails(one + " uses " + asked, ARGUMENT,
                () -> x.addStep(one, 0, 0, 's', asked, 1));
          }
        }
      }
    });
    Sentences.test("Each has a start, 0 at first.", () -> {
      Statewarden x = new Statewarden();
      x.begin('a');
      for (int variable = 0; variable < 9; variable++) {
        Check.same("in the state 0", x.variableIn(0, variable), 0);
      }
      for (int variable = 0; variable < 9; variable++) {
        Check.same("the start of " + variable, x.setStart(variable, 2), 0);
      }
    });
  }

  private static void channels() {
    Sentences.test("There are at most 2 channels, numbered from 0", () -> {
      Statewarden x = Make.with(1);
      Check.fails("no channel 0", ARGUMENT, () -> x.addStep(0, 0, 0, 'w', 0, 0));
      Check.same("addChannel", x.addChannel(1), 0);
      Check.fails("no channel 1", ARGUMENT, () -> x.addStep(0, 0, 0, 'r', 1, 0));
      Check.same("addChannel", x.addChannel(1), 1);
      Check.fails("a third one", STATE, () -> x.addChannel(1));
      Check.same("with 0", x.addStep(0, 0, 0, 'w', 0, 0), 0);
      Check.same("with 1", x.addStep(0, 0, 0, 'r', 1, 0), 1);
      Check.fails("no channel 2", ARGUMENT, () -> x.addStep(0, 0, 0, 'w', 2, 0));
      Check.fails("no channel -1", ARGUMENT, () -> x.addStep(0, 0, 0, 'w', -1, 0));
    });
    Sentences.test("a channel has a room of 0 to 2 numbers", () -> {
      for (int room = 0; room <= 2; room++) {
        Check.same("a room of " + room, new Statewarden().addChannel(room), 0);
      }
      Check.fails("a room of 3", ARGUMENT, () -> new Statewarden().addChannel(3));
      Check.fails("a room of -1", ARGUMENT, () -> new Statewarden().addChannel(-1));
    });
    Sentences.test("and holds at most as many", () -> {
      for (int channel = 0; channel < 2; channel++) {
        for (int room = 0; room <= 2; room++) {
          Statewarden x = Make.ending(1);
          x.addChannel(channel == 0 ? room : 2 - room);
          x.addChannel(channel == 1 ? room : 2 - room);
          x.addStep(0, 0, 0, 'w', channel, 0);
          Make.searchAll(x, 'a');
          Check.same("states with a room of " + room, x.states(), room + 1);
          Check.same("no move is left", x.moves(room), 0);
        }
      }
    });
    Sentences.test("none at first", () -> {
      for (int room = 1; room <= 2; room++) {
        Statewarden x = Make.ending(1);
        x.addChannel(room);
        x.addChannel(room);
        x.addStep(0, 0, 1, 'r', 0, 0);
        x.addStep(0, 0, 1, 'r', 1, 0);
        x.begin('a');
        Check.same("nothing to take out", x.moves(0), 0);
        Check.same("the start", x.codeOf(0), 0L);
      }
    });
    Sentences.test("in the order in which they came", () -> {
      Statewarden x = Make.ending(1);
      x.addChannel(2);
      x.setStart(0, 1);
      x.setStart(1, 2);
      x.addStep(0, 0, 1, 'w', 0, 0);
      x.addStep(0, 1, 2, 'w', 0, 1);
      x.addStep(0, 2, 3, 'r', 0, 3);
      x.addStep(0, 3, 4, 'w', 0, 0);
      x.addStep(0, 4, 5, 'r', 0, 4);
      x.addStep(0, 5, 6, 'r', 0, 2);
      Make.searchAll(x, 'a');
      Check.same("held", Make.channels(x.codeOf(2)), "212000");
      Check.same("the first one", x.variableIn(6, 3), 1);
      Check.same("held behind it", Make.channels(x.codeOf(4)), "221000");
      Check.same("the second one", x.variableIn(6, 4), 2);
      Check.same("the third one", x.variableIn(6, 2), 1);
    });
  }

  private static void drops(String what, Look.Call call) {
    for (char mode : Make.MODES) {
      Statewarden x = Make.chains(2, 1);
      x.begin(mode);
      x.search(500);
      call.make(x);
      Check.fails(what + " leaves no verdict", STATE, x::verdict);
      Check.fails(what + " leaves no states", STATE, x::states);
      Check.fails(what + " leaves nothing to go on with", STATE, () -> x.search(1));
      Check.fails(what + " leaves no answers on runs", STATE, x::components);
    }
  }

  private static void dropping() {
    Sentences.test("Each call that adds or sets something drops the search", () -> {
      drops("addProcess", Statewarden::addProcess);
      drops("addStep", x -> x.addStep(0, 0, 0, 'k', 0, 0));
      drops("addChannel", x -> x.addChannel(0));
      drops("setStart", x -> x.setStart(0, 1));
      drops("setMarks", x -> x.setMarks(1, 11, false, true));
      drops("addInvariant", x -> x.addInvariant(0, 1));
    });
    Sentences.test("also if nothing is another one then", () -> {
      drops("the same start", x -> x.setStart(8, 0));
      drops("the same marks", x -> x.setMarks(0, 3, true, false));
      drops("a step as there is one", x -> x.addStep(0, 0, 1, 'k', 0, 0));
      drops("an invariant as none is broken by", x -> x.addInvariant(8, 3));
      Statewarden x = Make.chains(2, 1);
      x.begin('a');
      Check.same("asking alone drops nothing", x.areAlike(0, 1), true);
      Check.same("the search is there", x.states(), 1);
    });
  }

  // ---- Steps

  /** A step of the only process from 0 to 1, and what is there behind it. */
  private static Statewarden behind(char kind, int a, int b, int variable, int start) {
    Statewarden x = Make.ending(1);
    x.addChannel(2);
    x.setStart(variable, start);
    x.addStep(0, 0, 1, kind, a, b);
    Make.searchAll(x, 'a');
    return x;
  }

  private static void leading() {
    Sentences.test("A step leads from a location to a location", () -> {
      for (int from = 0; from < 12; from++) {
        Statewarden x = Make.ending(1);
        x.addStep(0, 0, from, 'k', 0, 0);
        x.addStep(0, from, 11 - from, 's', 0, 1);
        Make.searchAll(x, 'a');
        int state = x.states() - 1;
        Check.same("it is done at " + from, x.variableIn(state, 0), 1);
        long behind = x.reached(from == 0 ? 0 : 1, from == 0 ? 1 : 0);
        Check.same("and leads on", Make.location(behind, 0), 11 - from);
      }
      Statewarden y = Make.ending(1);
      y.addStep(0, 0, 0, 'k', 0, 0);
      Make.searchAll(y, 'a');
      Check.same("from where it leads to", y.reached(0, 0), 0L);
      Check.same("once", y.made(), 1L);
    });
  }

  private static void kindsWithVariables() {
    Sentences.test("'k' nothing", () -> {
      for (int number = 0; number < 4; number++) {
        Statewarden x = Make.ending(1);
        x.addChannel(2);
        for (int variable = 0; variable < 9; variable++) {
          x.setStart(variable, number);
        }
        x.addStep(0, 0, 1, 'w', 0, 0);
        x.addStep(0, 1, 2, 'k', number, (number + 1) % 4);
        Make.searchAll(x, 'a');
        Check.same("nothing but the location", x.codeOf(2) - x.codeOf(1), Make.at(1, 0, 0));
      }
    });
    Sentences.test("'s' the variable a becomes b", () -> {
      for (int start = 0; start < 4; start++) {
        for (int number = 0; number < 4; number++) {
          Statewarden x = behind('s', 4, number, 4, start);
          Check.same(number + " behind " + start, x.variableIn(1, 4), number);
        }
      }
    });
    Sentences.test("'i' the variable a becomes what it is plus b, modulo 4", () -> {
      for (int start = 0; start < 4; start++) {
        for (int number = 0; number < 4; number++) {
          Statewarden x = behind('i', 2, number, 2, start);
          int due = start + number > 3 ? start + number - 4 : start + number;
          Check.same(start + " plus " + number, x.variableIn(1, 2), due);
          Check.same("and no other", x.codeOf(1),
              Check.code(Check.row(1, 0, 0, 0, 0, 0, 0, 0, 0), Check.row(0, 0, due), new int[6]));
        }
      }
    });
    Sentences.test("'=' it can be done only if the variable a is b", () -> {
      for (int start = 0; start < 4; start++) {
        for (int number = 0; number < 4; number++) {
          Statewarden x = behind('=', 3, number, 3, start);
          Check.same(start + " is " + number, x.moves(0), start == number ? 1 : 0);
          Check.same("it changes nothing", x.variableIn(x.states() - 1, 3), start);
        }
      }
    });
    Sentences.test("'!' only if it is not", () -> {
      for (int start = 0; start < 4; start++) {
        for (int number = 0; number < 4; number++) {
          Statewarden x = behind('!', 0, number, 0, start);
          Check.same(start + " is not " + number, x.moves(0), start == number ? 0 : 1);
          Check.same("it changes nothing", x.variableIn(x.states() - 1, 0), start);
        }
      }
    });
    Sentences.test("'a' it asserts that the variable a is not b", () -> {
      for (int start = 0; start < 4; start++) {
        for (int number = 0; number < 4; number++) {
          Statewarden x = behind('a', 4, number, 4, start);
          Check.same(start + " is not " + number, x.verdict(), start == number ? 'f' : 'n');
          Check.same("it can be done in any case", x.moves(0), 1);
          Check.same("it changes nothing", x.variableIn(x.states() - 1, 4), start);
        }
      }
    });
    Sentences.test("A process uses shared variables and its own ones alone.", () -> {
      for (char kind : Make.KINDS) {
        for (int process = 0; process < 3; process++) {
          Statewarden x = Make.with(3);
          x.addChannel(1);
          for (int variable = 3; variable < 9; variable++) {
            int one = process;
            int a = kind == 'w' || kind == 'r' ? 0 : variable;
            int b = kind == 'w' || kind == 'r' ? variable : 0;
            String what = kind + " of " + one + " with " + variable;
            if (kind == 'k' || variable == 3 + 2 * one || variable == 4 + 2 * one) {
              Check.same(what, x.addStep(one, 0, 0, kind, a, b) >= 0, true);
            } else {
              Check.fails(what, ARGUMENT, () -> x.addStep(one, 0, 0, kind, a, b));
            }
          }
        }
      }
    });
  }

  /** A process sends the variable 0 as often as is told, and then does a step. */
  private static Statewarden sending(int room, int times, char kind) {
    Statewarden x = Make.ending(1);
    x.addChannel(room);
    for (int location = 0; location < times; location++) {
      x.addStep(0, location, location + 1, 'w', 0, 0);
    }
    x.addStep(0, times, 11, kind, 0, 3);
    Make.searchAll(x, 'a');
    return x;
  }

  private static void kindsWithChannels() {
    Sentences.test("'w' the variable b is sent into the channel a", () -> {
      for (int channel = 0; channel < 2; channel++) {
        Statewarden x = Make.ending(1);
        x.addChannel(2);
        x.addChannel(2);
        x.setStart(3, 3);
        x.setStart(1, 2);
        x.addStep(0, 0, 1, 'w', channel, 3);
        x.addStep(0, 1, 2, 'w', channel, 1);
        Make.searchAll(x, 'a');
        Check.same("one", Make.channels(x.codeOf(1)), channel == 0 ? "130000" : "000130");
        Check.same("two", Make.channels(x.codeOf(2)), channel == 0 ? "232000" : "000232");
        Check.same("the variable stays", x.variableIn(2, 3), 3);
      }
    });
    Sentences.test("'r' the earliest number of the channel a is taken out, and the variable b"
        + " becomes it", () -> {
      for (int channel = 0; channel < 2; channel++) {
        Statewarden x = Make.ending(1);
        x.addChannel(2);
        x.addChannel(2);
        x.setStart(0, 3);
        x.setStart(4, 2);
        x.addStep(0, 0, 1, 'w', channel, 0);
        x.addStep(0, 1, 2, 'w', channel, 1);
        x.addStep(0, 2, 3, 'r', channel, 2);
        x.addStep(0, 3, 4, 'r', channel, 4);
        Make.searchAll(x, 'a');
        Check.same("two", Make.channels(x.codeOf(2)), channel == 0 ? "230000" : "000230");
        Check.same("the earliest one", x.variableIn(3, 2), 3);
        Check.same("the other one is left", Make.channels(x.codeOf(3)),
            channel == 0 ? "100000" : "000100");
        Check.same("a 0 is a number too", x.variableIn(4, 4), 0);
        Check.same("none is left", Make.channels(x.codeOf(4)), "000000");
      }
    });
    Sentences.test("'w' can be done if the channel has room left", () -> {
      for (int room = 1; room <= 2; room++) {
        for (int held = 0; held <= room; held++) {
          Statewarden x = sending(room, held, 'w');
          Check.same(held + " held, room " + room, x.moves(held), held < room ? 1 : 0);
        }
      }
    });
    Sentences.test("'r' if it holds a number", () -> {
      for (int room = 1; room <= 2; room++) {
        for (int held = 0; held <= room; held++) {
          Statewarden x = sending(room, held, 'r');
          Check.same(held + " held, room " + room, x.moves(held), held > 0 ? 1 : 0);
        }
      }
    });
  }

  private static void channelsWithoutRoom() {
    Sentences.test("For a channel with the room 0, a 'w' of one process and an 'r' of another one"
        + " are done at once, if both are at their locations", () -> {
      for (int sender = 0; sender < 3; sender++) {
        for (int taker = 0; taker < 3; taker++) {
          Statewarden x = Make.ending(3);
          x.addChannel(1);
          x.addChannel(0);
          x.addStep(sender, 0, 5, 'w', 1, 0);
          x.addStep(taker, 0, 7, 'r', 1, 0);
          x.begin('a');
          Check.same(sender + " to " + taker, x.moves(0), sender == taker ? 0 : 1);
          if (sender != taker) {
            long both = x.reached(0, 0);
            Check.same("the one of the 'w'", Make.location(both, sender), 5);
            Check.same("the one of the 'r'", Make.location(both, taker), 7);
            Check.same("the other one", Make.location(both, 3 - sender - taker), 0);
            Check.same("nothing is held", Make.channels(both), "000000");
          }
        }
      }
      Statewarden x = Make.ending(2);
      x.addChannel(0);
      x.addStep(0, 0, 1, 'w', 0, 0);
      x.addStep(1, 1, 2, 'r', 0, 0);
      x.begin('a');
      Check.same("the 'r' is elsewhere", x.moves(0), 0);
      x.addStep(1, 0, 1, 'k', 0, 0);
      Make.searchAll(x, 'a');
      Check.same("then it is there", x.codeOf(2), Make.at(1, 2, 0));
      Statewarden y = Make.ending(2);
      y.addChannel(0);
      y.addStep(0, 1, 2, 'w', 0, 0);
      y.addStep(1, 0, 2, 'r', 0, 0);
      y.begin('a');
      Check.same("the 'w' is elsewhere", y.moves(0), 0);
      Statewarden z = Make.ending(2);
      z.addChannel(0);
      z.addChannel(0);
      z.addStep(0, 0, 1, 'w', 0, 0);
      z.addStep(1, 0, 1, 'r', 1, 0);
      z.begin('a');
      Check.same("another channel", z.moves(0), 0);
    });
    Sentences.test("the variable of the 'r' becomes what the variable of the 'w' is", () -> {
      for (int number = 0; number < 4; number++) {
        Statewarden x = Make.ending(2);
        x.addChannel(0);
        x.setStart(4, number);
        x.setStart(5, 3 - number);
        x.addStep(0, 0, 1, 'w', 0, 4);
        x.addStep(1, 0, 1, 'r', 0, 5);
        Make.searchAll(x, 'a');
        Check.same("the one of the 'r'", x.variableIn(1, 5), number);
        Check.same("the one of the 'w' stays", x.variableIn(1, 4), number);
      }
    });
    Sentences.test("neither can be done alone", () -> {
      for (char kind : new char[] {'w', 'r'}) {
        Statewarden x = Make.with(2);
        x.addChannel(0);
        x.addStep(0, 0, 1, kind, 0, 0);
        Check.same(kind + " alone", Make.searchAll(x, 'a'), 'f');
        Check.same("is no move", x.moves(0), 0);
      }
    });
  }

  // ---- Marks

  private static void marks() {
    Sentences.test("A location of a process can be an end, or not, and quiet, or not", () -> {
      for (int combination = 0; combination < 4; combination++) {
        boolean isEnd = combination % 2 == 1;
        boolean isQuiet = combination > 1;
        Statewarden x = Make.with(2);
        x.setMarks(0, 11, isEnd, isQuiet);
        x.setMarks(1, 0, true, false);
        x.addStep(0, 0, 11, 'k', 0, 0);
        Check.same("an end or not", Make.searchAll(x, 'a'), isEnd ? 'n' : 'f');
        x.addStep(0, 11, 11, 'k', 0, 0);
        x.addStep(1, 0, 0, 'k', 0, 0);
        Make.searchAll(x, 'a');
        Check.same("quiet or not", x.moves(1), isQuiet ? 1 : 2);
      }
    });
    Sentences.test("at first it is neither", () -> {
      for (int process = 0; process < 3; process++) {
        for (int location = 0; location < 12; location++) {
          Check.same(process + " at " + location,
              Make.with(3).setMarks(process, location, false, false), false);
        }
      }
    });
  }

  // ---- States

  private static void whatStatesHave() {
    Sentences.test("A state has the locations of all processes", () -> {
      for (int process = 0; process < 3; process++) {
        Statewarden x = Make.ending(3);
        x.addStep(process, 0, 11, 'k', 0, 0);
        Make.searchAll(x, 'a');
        Check.same("another location", x.states(), 2);
      }
    });
    Sentences.test("all variables", () -> {
      for (int variable = 0; variable < 9; variable++) {
        Statewarden x = Make.ending(3);
        x.addStep(variable < 3 ? 2 : (variable - 3) / 2, 0, 0, 's', variable, 3);
        Make.searchAll(x, 'a');
        Check.same("another number in " + variable, x.states(), 2);
      }
    });
    Sentences.test("and what the channels hold", () -> {
      for (int channel = 0; channel < 2; channel++) {
        Statewarden x = Make.ending(1);
        x.addChannel(2);
        x.addChannel(2);
        x.setStart(1, 1);
        x.addStep(0, 0, 0, 'w', channel, 0);
        x.addStep(0, 0, 0, 'w', channel, 1);
        Make.searchAll(x, 'a');
        Check.same("none, 0, 1, 00, 01, 10 and 11", x.states(), 7);
        Statewarden y = Make.ending(1);
        y.addChannel(2);
        y.addChannel(2);
        y.addStep(0, 0, 0, 'w', channel, 0);
        Make.searchAll(y, 'a');
        Check.same("none, one 0 and two", y.states(), 3);
      }
    });
  }

  private static void orderOfMoves() {
    Sentences.test("by rising numbers of processes, of their steps from their locations those that"
        + " can be done", () -> {
      Statewarden x = Make.ending(3);
      for (int process = 2; process >= 0; process--) {
        x.addStep(process, 0, 9, 'k', 0, 0);
        x.addStep(process, 1, 8, 'k', 0, 0);
        x.addStep(process, 0, 2, '=', 0, 1);
        x.addStep(process, 0, 3, 'k', 0, 0);
      }
      x.begin('a');
      long[] due = {Make.at(9, 0, 0), Make.at(3, 0, 0), Make.at(0, 9, 0), Make.at(0, 3, 0),
        Make.at(0, 0, 9), Make.at(0, 0, 3)};
      Check.same("moves", x.moves(0), due.length);
      for (int move = 0; move < due.length; move++) {
        Check.same("move " + move, x.reached(0, move), due[move]);
      }
    });
    Sentences.test("of a 'w' into a channel with the room 0, one for each 'r' with which it can be"
        + " done, by rising numbers of the other processes and their steps", () -> {
      for (int sender = 0; sender < 3; sender++) {
        Statewarden x = Make.ending(3);
        x.addChannel(0);
        x.addStep(sender, 0, 1, 'k', 0, 0);
        x.addStep(sender, 0, 2, 'w', 0, 0);
        x.addStep(sender, 0, 3, 'k', 0, 0);
        for (int process = 2; process >= 0; process--) {
          if (process != sender) {
            x.addStep(process, 0, 5, 'r', 0, 0);
            x.addStep(process, 1, 6, 'r', 0, 0);
            x.addStep(process, 0, 4, 'r', 0, 0);
          }
        }
        x.begin('a');
        int[] own = {1, 2, 2, 2, 2, 3};
        int[] lower = {0, 5, 4, 0, 0, 0};
        int[] higher = {0, 0, 0, 5, 4, 0};
        Check.same("moves", x.moves(0), own.length);
        for (int move = 0; move < own.length; move++) {
          int[] due = sender == 0 ? Check.row(own[move], lower[move], higher[move])
              : sender == 1 ? Check.row(lower[move], own[move], higher[move])
              : Check.row(lower[move], higher[move], own[move]);
          Check.same("move " + move, x.reached(0, move), Make.at(due[0], due[1], due[2]));
        }
      }
    });
  }

  private static void leaders() {
    Sentences.test("The process of the 'w' leads such a move", () -> {
      for (int sender = 0; sender < 2; sender++) {
        Statewarden x = Make.with(2);
        x.addChannel(0);
        x.addStep(sender, 5, 5, 'k', 0, 0);
        x.addStep(sender, 0, 1, 'w', 0, 0);
        x.addStep(1 - sender, 0, 1, 'r', 0, 0);
        Make.searchAll(x, 'a');
        Check.same("the length of the trace", x.traceLength(), 1);
        Check.same("it is the one of the 'w'", x.traceProcess(0), sender);
        Check.same("with its step", x.traceStep(0), 1);
      }
    });
    Sentences.test("otherwise, the one that does the step leads", () -> {
      for (char kind : Make.KINDS) {
        Statewarden x = Make.with(3);
        x.addChannel(2);
        x.addStep(0, 0, 1, 'w', 0, 0);
        x.addStep(1, 11, 1, kind, 0, 0);
        x.addStep(1, 0, 1, kind, 0, kind == '=' ? 0 : 1);
        Make.searchAll(x, 'a');
        Check.same("stuck behind two moves", x.traceLength(), 2);
        Check.same("first the process 0", x.traceProcess(0), 0);
        Check.same("then the process 1 with " + kind, x.traceProcess(1), 1);
        Check.same("with its step", x.traceStep(1), 1);
      }
    });
  }

  private static void quietLocations() {
    String words = "If some process that is at a quiet location leads moves, only those that the"
        + " lowest-numbered one of these leads are moves of the state.";
    Sentences.test(words, () -> {
      for (int quiet = 0; quiet < 8; quiet++) {
        Statewarden x = Make.ending(3);
        for (int process = 0; process < 3; process++) {
          x.addStep(process, 0, 1, 'k', 0, 0);
          x.addStep(process, 0, 2, 'k', 0, 0);
          x.setMarks(process, 0, true, (quiet >> process & 1) == 1);
        }
        x.begin('a');
        int lowest = quiet == 0 ? 0 : Integer.numberOfTrailingZeros(quiet);
        Check.same("moves with " + quiet, x.moves(0), quiet == 0 ? 6 : 2);
        for (int move = 0; move < 2; move++) {
          Check.same("of the lowest one", Make.location(x.reached(0, move), lowest), move + 1);
        }
      }
    });
    Sentences.test("leads moves", () -> {
      Statewarden x = Make.ending(3);
      x.addChannel(0);
      x.addStep(0, 0, 1, '=', 0, 1);
      x.addStep(1, 0, 1, 'r', 0, 0);
      x.addStep(2, 0, 1, 'w', 0, 0);
      x.addStep(2, 0, 2, 'k', 0, 0);
      x.addStep(0, 0, 3, 'r', 0, 0);
      x.setMarks(0, 0, true, true);
      x.setMarks(1, 0, true, true);
      x.begin('a');
      Check.same("those without moves that they lead count for nothing", x.moves(0), 3);
      x.addStep(1, 0, 4, 'k', 0, 0);
      x.begin('a');
      Check.same("the process 1 leads one", x.moves(0), 1);
      Check.same("which is a move", x.reached(0, 0), Make.at(0, 4, 0));
      x.setMarks(2, 0, true, true);
      x.setMarks(1, 0, true, false);
      x.begin('a');
      Check.same("also one that leads moves of two", x.moves(0), 3);
      Check.same("both go on", x.reached(0, 0), Make.at(3, 0, 1));
    });
  }

  private static void codes() {
    Sentences.test("for each of the processes 0 to 2, also those that there are not, times 12 plus"
        + " the location, times 4 plus the first own variable, times 4 plus the second one", () -> {
      for (int processes = 0; processes <= 3; processes++) {
        Statewarden x = Make.ending(processes);
        int[] row = new int[9];
        for (int process = 0; process < 3; process++) {
          x.setStart(3 + 2 * process, 3 - process);
          x.setStart(4 + 2 * process, process + 1);
          row[3 * process + 1] = 3 - process;
          row[3 * process + 2] = process + 1;
        }
        for (int process = 0; process < processes; process++) {
          x.addStep(process, 0, 11 - process, 'k', 0, 0);
          x.setMarks(process, 0, true, true);
        }
        Make.searchAll(x, 'a');
        for (int state = 0; state <= processes; state++) {
          Check.same(processes + " processes, the state " + state, x.codeOf(state),
              Check.code(row, new int[3], new int[6]));
          row[3 * Math.min(state, 2)] = 11 - state;
        }
      }
      Statewarden y = new Statewarden();
      y.setStart(3, 1);
      y.begin('a');
      Check.same("written out", y.codeOf(0), 4L * 12 * 4 * 4 * 12 * 4 * 4 * 64 * 48 * 48);
    });
    Sentences.test("then for each shared variable times 4 plus it", () -> {
      for (int variable = 0; variable < 3; variable++) {
        for (int number = 0; number < 4; number++) {
          Statewarden x = new Statewarden();
          x.setStart(variable, number);
          x.begin('a');
          long due = number * 48L * 48;
          for (int later = variable; later < 2; later++) {
            due *= 4;
          }
          Check.same(variable + " is " + number, x.codeOf(0), due);
        }
      }
    });
  }

  private static void codesOfChannels() {
    String words = "then for each of the channels 0 and 1 times 3 plus how many numbers it holds,"
        + " times 4 plus the first one, times 4 plus the second one, 0 for none.";
    Sentences.test(words, () -> {
      for (int channel = 0; channel < 2; channel++) {
        long weight = channel == 0 ? 48 : 1;
        Statewarden x = Make.ending(1);
        x.addChannel(2);
        if (channel == 1) {
          x.addChannel(2);
        }
        x.setStart(0, 3);
        x.setStart(1, 2);
        x.addStep(0, 0, 1, 'w', channel, 0);
        x.addStep(0, 1, 2, 'w', channel, 1);
        x.addStep(0, 2, 3, 'r', channel, 0);
        x.addStep(0, 3, 4, 'r', channel, 1);
        Make.searchAll(x, 'a');
        long[] due = {0, 16 + 12, 32 + 12 + 2, 16 + 8, 0};
        for (int state = 0; state < 5; state++) {
          Check.same("the channel in the state " + state, x.codeOf(state) % (48 * 48),
              due[state] * weight);
        }
      }
      Statewarden y = Make.ending(3);
      y.addChannel(2);
      y.addChannel(2);
      for (int variable = 0; variable < 9; variable++) {
        y.setStart(variable, 3);
      }
      int[] to = {1, 2, 3, 11};
      for (int location = 0; location < 4; location++) {
        y.addStep(0, location, to[location], 'w', location / 2, 3);
      }
      y.addStep(1, 0, 11, 'k', 0, 0);
      y.addStep(2, 0, 11, 'k', 0, 0);
      Make.searchAll(y, 'a');
      long[] codes = new long[y.states()];
      for (int state = 0; state < codes.length; state++) {
        codes[state] = y.codeOf(state);
      }
      Arrays.sort(codes);
      Check.same("the greatest code that there is", codes[codes.length - 1], 1_043_677_052_927L);
    });
  }
}
