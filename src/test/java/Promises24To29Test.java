import java.util.NoSuchElementException;

/** Promises 24 to 29, sentence by sentence: what is asked of all runs. */
public final class Promises24To29Test {
  private static final Class<IllegalArgumentException> ARGUMENT = IllegalArgumentException.class;
  private static final Class<IllegalStateException> STATE = IllegalStateException.class;
  private static final Class<NoSuchElementException> NONE = NoSuchElementException.class;
  private static final String VARIABLE = "`variable`: the variable, 0 to 8";
  private static final String VALUE = "`value`: the number, 0 to 3";
  private static final String IS_FAIR = "`isFair`: whether only fair runs count";
  private static final String NO_VARIABLE =
      "Throws `IllegalArgumentException` if there is no such variable";
  private static final String NO_NUMBER = "or the number is out of range";
  private static final String NOT_ALL =
      "Throws `IllegalStateException` if there is no search in the mode 'a' with the verdict 'n'";

  private Promises24To29Test() {}

  public static void main(String[] args) {
    recurs();
    recursByTaking();
    comes();
    follows();
    followsRefuses();
    distance();
    components();
    Check.end();
  }

  private interface Question {
    Object ask(Statewarden x, int variable, int value);
  }

  /** The process 0 goes round, and the process 1 may do its one step. */
  private static Statewarden round() {
    Statewarden x = Make.ending(2);
    x.addStep(0, 0, 1, 's', 3, 1);
    x.addStep(0, 1, 2, 's', 3, 2);
    x.addStep(0, 2, 0, 's', 3, 0);
    x.addStep(1, 0, 1, 's', 0, 1);
    return x;
  }

  private static Statewarden searched(Statewarden x) {
    Check.same("the verdict", Make.searchAll(x, 'a'), 'n');
    return x;
  }

  private static void noVariable(Question question) {
    for (int variable : new int[] {Integer.MIN_VALUE, -1, 9, Integer.MAX_VALUE}) {
      Look.refused("the variable " + variable, ARGUMENT, () -> searched(round()),
          x -> question.ask(x, variable, 0));
      Look.refused("ahead of the search", ARGUMENT, () -> round(),
          x -> question.ask(x, variable, 0));
    }
  }

  private static void noNumber(Question question) {
    for (int value : new int[] {Integer.MIN_VALUE, -1, 4, Integer.MAX_VALUE}) {
      for (int variable = 0; variable < 9; variable += 8) {
        int asked = variable;
        Look.refused("the number " + value, ARGUMENT, () -> searched(round()),
            x -> question.ask(x, asked, value));
        Look.refused("ahead of the search", ARGUMENT, () -> round(),
            x -> question.ask(x, asked, value));
      }
    }
  }

  private static void needsAll(Look.Call call) {
    Look.refused("no search", STATE, () -> round(), call);
    Look.refused("a new object", STATE, Statewarden::new, call);
    Look.refused("begun", STATE, () -> searchedFor(round(), 'a', 0), call);
    Look.refused("one state is left", STATE, () -> searchedFor(round(), 'a', 5), call);
    for (char mode : new char[] {'p', 's', 'h'}) {
      Look.refused("ended in " + mode, STATE, () -> searchedFor(round(), mode, 500), call);
    }
    Look.refused("with a fault", STATE, () -> {
      Statewarden x = round();
      x.addInvariant(3, 2);
      return searchedFor(x, 'a', 500);
    }, call);
    Look.refused("dropped", STATE, () -> {
      Statewarden x = searched(round());
      x.setStart(8, 0);
      return x;
    }, call);
    Statewarden full = Make.longWay(2);
    Check.same("2000 states", Make.searchAll(full, 'a'), '?');
    Check.fails("2000 states", STATE, () -> call.make(full));
    Statewarden other = searched(round());
    other.begin('p');
    Check.fails("a search in the place of that", STATE, () -> call.make(other));
  }

  private static Statewarden searchedFor(Statewarden x, char mode, int budget) {
    x.begin(mode);
    if (budget > 0) {
      x.search(budget);
    }
    return x;
  }

  /** All variables with all numbers: each is one of them, at the start and for ever. */
  private static void allVariables(boolean isOther, Question question) {
    Statewarden x = Make.ending(3);
    for (int variable = 0; variable < 9; variable++) {
      x.setStart(variable, Make.STARTS[variable]);
    }
    searched(x);
    for (int variable = 0; variable < 9; variable++) {
      for (int value = 0; value < 4; value++) {
        boolean is = value == Make.STARTS[variable];
        Check.same(variable + " is " + value, question.ask(x, variable, value), is != isOther);
      }
    }
  }

  private static void recurs() {
    Sentences.of("Promise 24: recurs");
    Sentences.test("Tells whether a variable is a number again and again on all runs", () -> {
      Statewarden x = searched(round());
      for (int value = 0; value < 3; value++) {
        Check.same("each time round " + value, x.recurs(3, value, true), true);
        Check.same("one may never", x.recurs(5, value, false), value == 0);
      }
      Check.same("never", x.recurs(3, 3, false), false);
      Statewarden y = Make.ending(1);
      y.addStep(0, 0, 0, 'k', 0, 0);
      y.addStep(0, 0, 1, 's', 0, 1);
      searched(y);
      Check.same("on one run alone", y.recurs(0, 1, false), false);
      Statewarden z = Make.ending(1);
      z.addStep(0, 0, 1, 's', 0, 1);
      z.addStep(0, 1, 2, 's', 0, 0);
      searched(z);
      Check.same("once, and not again", z.recurs(0, 1, false), false);
    });
    Sentences.test("found by components: sets of states that reach one another.", () -> {
      Statewarden x = Make.ending(1);
      x.addStep(0, 0, 1, 's', 3, 1);
      x.addStep(0, 1, 2, 's', 3, 0);
      x.addStep(0, 2, 3, 's', 3, 1);
      x.addStep(0, 3, 2, 's', 3, 0);
      searched(x);
      Check.same("in the last one", x.recurs(3, 1, false), true);
      x.addStep(0, 2, 4, 's', 3, 0);
      x.addStep(0, 4, 2, 'k', 0, 0);
      searched(x);
      Check.same("a ring in it, without the number", x.recurs(3, 1, false), false);
      Check.same("which is never left for good else", x.recurs(3, 0, false), true);
      Statewarden y = Make.ending(1);
      y.addStep(0, 0, 0, 'k', 0, 0);
      searched(y);
      Check.same("one state that reaches itself", y.recurs(0, 1, false), false);
    });
    Sentences.test(VARIABLE, () -> allVariables(false, (x, v, n) -> x.recurs(v, n, false)));
    Sentences.test(VALUE, () -> allVariables(false, (x, v, n) -> x.recurs(v, n, true)));
    Sentences.test(IS_FAIR, () -> {
      Statewarden x = searched(round());
      Check.same("any runs", x.recurs(0, 1, false), false);
      Check.same("fair ones", x.recurs(0, 1, true), true);
    });
    Sentences.test("Returns whether it is, on each of these runs, infinitely often.", () -> {
      Statewarden x = searched(Make.longWay(1));
      Check.same("often, but not for ever", x.recurs(3, 1, false), false);
      Check.same("at the end, for ever", x.recurs(3, 0, false), true);
      Statewarden y = searched(round());
      Check.same("at first alone", y.recurs(0, 0, true), false);
    });
    Sentences.test(NO_VARIABLE, () -> noVariable((x, v, n) -> x.recurs(v, n, true)));
    Sentences.test(NO_NUMBER, () -> noNumber((x, v, n) -> x.recurs(v, n, false)));
    Sentences.test(NOT_ALL, () -> needsAll(x -> x.recurs(0, 0, false)));
    Sentences.allTested();
  }

  private static void recursByTaking() {
    Sentences.of("Promise 25: recursByTaking");
    Sentences.test("Returns the same for all runs, in a second way", () -> {
      Statewarden[] all = {round(), Make.chains(2, 3), Make.longWay(1), new Statewarden()};
      for (Statewarden x : all) {
        searched(x);
        for (int variable = 0; variable < 9; variable++) {
          for (int value = 0; value < 4; value++) {
            Check.same(variable + " is " + value, x.recursByTaking(variable, value),
                x.recurs(variable, value, false));
          }
        }
      }
    });
    Sentences.test("by taking away, again and again, states in which the variable is not the number"
        + " and from which no move leads to such a state that is left", () -> {
      Statewarden x = Make.chains(1, 10);
      x.addStep(0, 10, 11, 's', 0, 1);
      searched(x);
      Check.same("one behind the other", x.recursByTaking(0, 1), true);
      x.addStep(0, 5, 5, 'k', 0, 0);
      searched(x);
      Check.same("one is left for ever", x.recursByTaking(0, 1), false);
      Statewarden y = Make.ending(1);
      for (int location = 1; location <= 6; location++) {
        y.addStep(0, 0, location, 'k', 0, 0);
        y.addStep(0, location, location == 1 ? 7 : location - 1, location == 1 ? 's' : 'k', 0, 1);
      }
      searched(y);
      Check.same("against the order of the states", y.recursByTaking(0, 1), true);
    });
    Sentences.test("a state without moves leads to itself.", () -> {
      Statewarden x = searched(Make.chains(1, 1));
      Check.same("it is left", x.recursByTaking(0, 1), false);
      Check.same("it is not such a state", x.recursByTaking(0, 0), true);
      x.addStep(0, 1, 2, 's', 0, 1);
      searched(x);
      Check.same("it is not such a state", x.recursByTaking(0, 1), true);
    });
    Sentences.test(VARIABLE, () -> allVariables(false, (x, v, n) -> x.recursByTaking(v, n)));
    Sentences.test(VALUE, () -> {
      Statewarden x = searched(round());
      boolean[] due = {true, true, true, false};
      for (int value = 0; value < 4; value++) {
        Check.same("the number " + value, x.recursByTaking(3, value), due[value]);
      }
    });
    Sentences.test("Returns whether it is, on each run, infinitely often.", () -> {
      Statewarden x = searched(round());
      Check.same("each time round", x.recursByTaking(3, 1), true);
      Check.same("not on each run", x.recursByTaking(0, 1), false);
      Check.same("not even on one", x.recursByTaking(3, 3), false);
    });
    Sentences.test(NO_VARIABLE, () -> noVariable(Statewarden::recursByTaking));
    Sentences.test(NO_NUMBER, () -> noNumber(Statewarden::recursByTaking));
    Sentences.test(NOT_ALL, () -> needsAll(x -> x.recursByTaking(0, 0)));
    Sentences.allTested();
  }

  private static void comes() {
    Sentences.of("Promise 26: comes");
    Sentences.test("Tells whether a variable is a number at some time on all runs.", () -> {
      Statewarden x = searched(Make.longWay(1));
      Check.same("at the start", x.comes(2, 1, false), true);
      Check.same("later", x.comes(2, 3, false), true);
      Check.same("at the end", x.comes(2, 0, false), true);
      Check.same("at no time", x.comes(5, 1, false), false);
      Statewarden y = Make.ending(1);
      y.addStep(0, 0, 1, 's', 0, 1);
      y.addStep(0, 0, 2, 'k', 0, 0);
      searched(y);
      Check.same("on one run alone", y.comes(0, 1, false), false);
      y.addStep(0, 2, 1, 's', 0, 1);
      searched(y);
      Check.same("on all", y.comes(0, 1, false), true);
    });
    Sentences.test(VARIABLE, () -> allVariables(false, (x, v, n) -> x.comes(v, n, false)));
    Sentences.test(VALUE, () -> allVariables(false, (x, v, n) -> x.comes(v, n, true)));
    Sentences.test(IS_FAIR, () -> {
      Statewarden x = searched(round());
      Check.same("any runs", x.comes(0, 1, false), false);
      Check.same("fair ones", x.comes(0, 1, true), true);
      Check.same("not even fair ones", x.comes(0, 2, true), false);
    });
    Sentences.test("Returns whether it is, on each of these runs, at least once.", () -> {
      Statewarden x = Make.ending(1);
      x.addStep(0, 0, 1, 's', 0, 1);
      x.addStep(0, 1, 2, 's', 0, 2);
      searched(x);
      for (int value = 0; value < 4; value++) {
        Check.same("once " + value, x.comes(0, value, false), value < 3);
      }
    });
    Sentences.test(NO_VARIABLE, () -> noVariable((x, v, n) -> x.comes(v, n, false)));
    Sentences.test(NO_NUMBER, () -> noNumber((x, v, n) -> x.comes(v, n, true)));
    Sentences.test(NOT_ALL, () -> needsAll(x -> x.comes(0, 0, true)));
    Sentences.allTested();
  }

  private static void follows() {
    Sentences.of("Promise 27: follows");
    Sentences.test("Tells whether, on all runs, whenever a variable is a number, another one is a"
        + " number then or later.", () -> {
      Statewarden x = Make.ending(1);
      x.addStep(0, 0, 1, 's', 0, 1);
      x.addStep(0, 1, 2, 's', 1, 1);
      x.addStep(0, 2, 3, 's', 1, 2);
      x.addStep(0, 3, 4, 's', 0, 2);
      searched(x);
      Check.same("later", x.follows(0, 1, 1, 1, false), false);
      Check.same("in the end", x.follows(0, 1, 1, 2, false), true);
      Check.same("then", x.follows(1, 1, 0, 1, false), true);
      Check.same("then, and for ever", x.follows(0, 2, 1, 2, false), true);
      Check.same("earlier alone", x.follows(1, 2, 0, 0, false), false);
      Check.same("it never is the number", x.follows(0, 3, 1, 3, false), true);
      Check.same("the other one never is", x.follows(0, 0, 1, 3, false), false);
      Check.same("from the start on", x.follows(0, 0, 0, 2, false), true);
      Statewarden y = Make.ending(1);
      y.addStep(0, 0, 1, 's', 0, 1);
      y.addStep(0, 1, 2, 's', 1, 1);
      y.addStep(0, 1, 3, 'k', 0, 0);
      searched(y);
      Check.same("on one run alone", y.follows(0, 1, 1, 1, false), false);
      Statewarden z = Make.ending(2);
      z.addStep(0, 0, 1, 's', 0, 3);
      z.addStep(1, 0, 0, 'k', 0, 0);
      searched(z);
      Check.same("it is the number", z.follows(0, 3, 1, 1, true), false);
      z.setMarks(1, 0, true, true);
      searched(z);
      Check.same("in a state that is not found any more", z.follows(0, 3, 1, 1, true), true);
    });
    Sentences.test(VARIABLE, () -> allVariables(true, (x, v, n) -> x.follows(v, n, 8, 0, false)));
    Sentences.test(VALUE, () -> allVariables(true, (x, v, n) -> x.follows(v, n, 0, 3, true)));
    Sentences.test("`other`: the other variable, 0 to 8",
        () -> allVariables(false, (x, v, n) -> x.follows(8, 3, v, n, false)));
    Sentences.test("`otherValue`: its number, 0 to 3",
        () -> allVariables(false, (x, v, n) -> x.follows(0, 1, v, n, true)));
    Sentences.test(IS_FAIR, () -> {
      Statewarden x = searched(round());
      Check.same("any runs", x.follows(3, 1, 0, 1, false), false);
      Check.same("fair ones", x.follows(3, 1, 0, 1, true), true);
      Check.same("not even fair ones", x.follows(3, 1, 0, 2, true), false);
    });
    Sentences.test("Returns whether it is so on each of these runs.", () -> {
      Statewarden x = searched(round());
      for (int value = 0; value < 3; value++) {
        Check.same("each time round", x.follows(3, value, 3, (value + 1) % 3, false), true);
        Check.same("the same", x.follows(3, value, 3, value, false), true);
        Check.same("at no time at all", x.follows(3, 3, 3, value, false), true);
        Check.same("never what it is at no time", x.follows(3, value, 3, 3, false), false);
      }
    });
  }

  private static void followsRefuses() {
    Sentences.test(NO_VARIABLE, () -> {
      noVariable((x, v, n) -> x.follows(v, n, 0, 0, true));
      noVariable((x, v, n) -> x.follows(0, 0, v, n, false));
    });
    Sentences.test("or a number is out of range", () -> {
      noNumber((x, v, n) -> x.follows(v, n, 0, 0, false));
      noNumber((x, v, n) -> x.follows(0, 0, v, n, true));
    });
    Sentences.test(NOT_ALL, () -> needsAll(x -> x.follows(0, 0, 0, 0, true)));
    Sentences.allTested();
  }

  private static void distance() {
    Sentences.of("Promise 28: distance");
    Sentences.test("Returns the least number of moves from the start to a state in which a variable"
        + " is a number.", () -> {
      Statewarden x = Make.ending(2);
      for (int location = 0; location < 4; location++) {
        x.addStep(0, location, location + 1, location == 3 ? 's' : 'k', 0, 1);
      }
      x.addStep(1, 0, 1, 'k', 0, 0);
      x.addStep(1, 1, 2, 's', 0, 1);
      x.addStep(1, 1, 3, 's', 0, 2);
      searched(x);
      Check.same("the shorter way", x.distance(0, 1), 2);
      Check.same("another number", x.distance(0, 2), 2);
      Check.same("the start", x.distance(0, 0), 0);
    });
    Sentences.test(VARIABLE, () -> {
      for (int variable = 0; variable <= 8; variable++) {
        Statewarden x = Make.ending(3);
        x.addStep(variable < 3 ? 1 : (variable - 3) / 2, 0, 1, 's', variable, 3);
        searched(x);
        Check.same("the variable " + variable, x.distance(variable, 3), 1);
        Check.same("the start", x.distance(variable, 0), 0);
      }
    });
    Sentences.test(VALUE, () -> {
      Statewarden x = Make.ending(1);
      x.addStep(0, 0, 0, 'i', 4, 3);
      searched(x);
      for (int value = 0; value <= 3; value++) {
        Check.same("the number " + value, x.distance(4, value), (4 - value) % 4);
      }
    });
    Sentences.test("Returns the number of moves.", () -> {
      Statewarden x = searched(Make.longWay(1));
      Check.same("to the last of 1999 states", x.distance(2, 0), 1998);
      Statewarden y = Make.ending(2);
      y.addChannel(0);
      y.setStart(3, 1);
      y.addStep(0, 0, 1, 'w', 0, 3);
      y.addStep(1, 0, 1, 'r', 0, 5);
      searched(y);
      Check.same("a move of two is one", y.distance(5, 1), 1);
    });
    Sentences.test(NO_VARIABLE, () -> noVariable(Statewarden::distance));
    Sentences.test(NO_NUMBER, () -> noNumber(Statewarden::distance));
    Sentences.test(NOT_ALL, () -> {
      needsAll(x -> x.distance(0, 0));
      needsAll(x -> x.distance(0, 3));
    });
    Sentences.test("Throws `NoSuchElementException` if there is no such state", () -> {
      Look.refused("never", NONE, () -> searched(round()), x -> x.distance(3, 3));
      Look.refused("never", NONE, () -> searched(round()), x -> x.distance(8, 1));
      Look.refused("one state alone", NONE, () -> searched(new Statewarden()),
          x -> x.distance(0, 1));
      Statewarden x = Make.ending(2);
      x.addStep(0, 0, 1, 's', 0, 3);
      x.addStep(1, 0, 0, 'k', 0, 0);
      searched(x);
      Check.same("in a state that is found", x.distance(0, 3), 1);
      x.setMarks(1, 0, true, true);
      searched(x);
      Check.fails("which is not found any more", NONE, () -> x.distance(0, 3));
    });
    Sentences.allTested();
  }

  private static void components() {
    Sentences.of("Promise 29: components");
    Sentences.test("Returns the number of components: sets of states that reach one another by"
        + " moves, as many states as there can be", () -> {
      Statewarden x = searched(round());
      Check.same("two rings", x.components(), 2);
      Statewarden y = Make.ending(1);
      for (int location = 0; location < 11; location++) {
        y.addStep(0, location, location + 1, 'k', 0, 0);
      }
      y.addStep(0, 11, 0, 'k', 0, 0);
      searched(y);
      Check.same("one ring of all", y.components(), 1);
      Statewarden z = Make.ending(1);
      z.addStep(0, 0, 1, 'k', 0, 0);
      z.addStep(0, 1, 2, 'k', 0, 0);
      z.addStep(0, 2, 1, 'k', 0, 0);
      z.addStep(0, 2, 3, 'k', 0, 0);
      z.addStep(0, 3, 4, 'k', 0, 0);
      z.addStep(0, 4, 2, 'k', 0, 0);
      z.addStep(0, 4, 5, 'k', 0, 0);
      searched(z);
      Check.same("two rings that meet are one", z.components(), 3);
      Statewarden w = Make.ending(1);
      w.addStep(0, 0, 1, 'k', 0, 0);
      w.addStep(0, 0, 2, 'k', 0, 0);
      w.addStep(0, 2, 1, 'k', 0, 0);
      w.addStep(0, 1, 3, 'k', 0, 0);
      w.addStep(0, 3, 1, 'k', 0, 0);
      searched(w);
      Check.same("one that reaches another one's ring is not of it", w.components(), 3);
    });
    Sentences.test("a state that no other one reaches and that it reaches is one by"
        + " itself.", () -> {
      Check.same("the start alone", searched(new Statewarden()).components(), 1);
      Statewarden x = searched(Make.chains(3, 2));
      Check.same("each by itself", x.components(), 27);
      x.addStep(0, 0, 0, 'k', 0, 0);
      searched(x);
      Check.same("also those that reach themselves", x.components(), 27);
      Check.same("1999 of them", searched(Make.longWay(1)).components(), 1999);
    });
    Sentences.test("Returns the number of components.", () -> {
      Statewarden x = searched(round());
      for (int turn = 0; turn < 3; turn++) {
        x.recurs(3, 1, true);
        Check.same("asked once more", x.components(), 2);
      }
    });
    Sentences.test(NOT_ALL, () -> needsAll(Statewarden::components));
    Sentences.allTested();
  }
}
