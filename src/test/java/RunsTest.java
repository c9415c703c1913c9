import java.util.NoSuchElementException;

/** Promises 24 to 29: what is asked of all runs. */
public final class RunsTest {
  private static final Class<IllegalArgumentException> ARGUMENT = IllegalArgumentException.class;
  private static final Class<IllegalStateException> STATE = IllegalStateException.class;
  private static final Class<NoSuchElementException> NONE = NoSuchElementException.class;

  private RunsTest() {}

  public static void main(String[] args) {
    wrongArguments();
    withoutAllStates();
    stayingForEver();
    goingRound();
    ringWithAWayOut();
    fairnessOfOneThatCanAlways();
    fairnessIsNotAskedOfOneThatCanAtTimes();
    bothDoAStepInAMoveOfTwo();
    oneThatIsNotQuietCannot();
    fairnessOfEachAloneIsNotEnough();
    startCounts();
    followsThenOrLater();
    followsFromEachState();
    followsOnlyBehind();
    followsItself();
    distances();
    componentCounts();
    componentsOfALongChain();
    takingInBothDirections();
    Check.end();
  }

  private static Statewarden with(int processes) {
    Statewarden x = new Statewarden();
    for (int process = 0; process < processes; process++) {
      x.addProcess();
      for (int location = 0; location < 12; location++) {
        x.setMarks(process, location, true, false);
      }
    }
    return x;
  }

  private static void searchAll(Statewarden x) {
    x.begin('a');
    for (int turn = 0; turn < 5; turn++) {
      x.search(500);
    }
    Check.same("all searched", x.verdict(), 'n');
  }

  private static void recursByTaking(Statewarden x, int variable, int value, boolean due) {
    String what = "by taking alone, again and again " + variable + " is " + value;
    Check.same(what, x.recursByTaking(variable, value), due);
  }

  private static void recurs(Statewarden x, int variable, int value, boolean any, boolean fair) {
    String what = "again and again " + variable + " is " + value;
    Check.same(what, x.recurs(variable, value, false), any);
    Check.same(what + " by taking", x.recursByTaking(variable, value), any);
    Check.same(what + ", fair", x.recurs(variable, value, true), fair);
  }

  private static void comes(Statewarden x, int variable, int value, boolean any, boolean fair) {
    String what = "at some time " + variable + " is " + value;
    Check.same(what, x.comes(variable, value, false), any);
    Check.same(what + ", fair", x.comes(variable, value, true), fair);
  }

  private static void follows(
      Statewarden x, int variable, int value, int other, int otherValue,
      boolean any, boolean fair) {
    String what = variable + " is " + value + ", then " + other + " is " + otherValue;
    Check.same(what, x.follows(variable, value, other, otherValue, false), any);
    Check.same(what + ", fair", x.follows(variable, value, other, otherValue, true), fair);
  }

  private static void wrongArguments() {
    Statewarden x = with(1);
    for (int turn = 0; turn < 2; turn++) {
      for (int variable : new int[] {-1, 9, Integer.MAX_VALUE, Integer.MIN_VALUE}) {
        Check.fails("recurs", ARGUMENT, () -> x.recurs(variable, 0, true));
        Check.fails("recursByTaking", ARGUMENT, () -> x.recursByTaking(variable, 0));
        Check.fails("comes", ARGUMENT, () -> x.comes(variable, 0, false));
        Check.fails("follows", ARGUMENT, () -> x.follows(variable, 0, 0, 0, true));
        Check.fails("follows", ARGUMENT, () -> x.follows(0, 0, variable, 0, true));
        Check.fails("distance", ARGUMENT, () -> x.distance(variable, 0));
      }
      for (int value : new int[] {-1, 4, Integer.MAX_VALUE, Integer.MIN_VALUE}) {
        Check.fails("recurs", ARGUMENT, () -> x.recurs(0, value, true));
        Check.fails("recursByTaking", ARGUMENT, () -> x.recursByTaking(0, value));
        Check.fails("comes", ARGUMENT, () -> x.comes(0, value, false));
        Check.fails("follows", ARGUMENT, () -> x.follows(0, value, 0, 0, true));
        Check.fails("follows", ARGUMENT, () -> x.follows(0, 0, 0, value, true));
        Check.fails("distance", ARGUMENT, () -> x.distance(0, value));
      }
      searchAll(x);
    }
  }

  private static void refused(String what, Statewarden x) {
    Check.fails(what + ", recurs", STATE, () -> x.recurs(0, 0, false));
    Check.fails(what + ", recursByTaking", STATE, () -> x.recursByTaking(8, 3));
    Check.fails(what + ", comes", STATE, () -> x.comes(0, 0, true));
    Check.fails(what + ", follows", STATE, () -> x.follows(0, 0, 8, 3, false));
    Check.fails(what + ", distance", STATE, () -> x.distance(0, 0));
    Check.fails(what + ", components", STATE, x::components);
  }

  private static void withoutAllStates() {
    Statewarden x = with(1);
    x.addStep(0, 0, 1, 'k', 0, 0);
    refused("no search", x);
    x.begin('a');
    refused("begun", x);
    x.search(1);
    refused("not ended", x);
    x.search(1);
    Check.same("ended", x.components(), 2);
    for (char mode : new char[] {'p', 's', 'h'}) {
      x.begin(mode);
      x.search(500);
      refused("in the mode " + mode, x);
    }
    x.begin('a');
    x.search(500);
    Check.same("ended once more", x.components(), 2);
    x.setMarks(0, 1, false, false);
    refused("dropped", x);
    x.begin('a');
    x.search(500);
    refused("with a fault", x);
  }

  private static void stayingForEver() {
    Statewarden x = with(0);
    x.setStart(8, 2);
    searchAll(x);
    recurs(x, 0, 0, true, true);
    recurs(x, 0, 1, false, false);
    recurs(x, 8, 2, true, true);
    comes(x, 8, 2, true, true);
    comes(x, 8, 0, false, false);
    follows(x, 8, 2, 0, 0, true, true);
    follows(x, 8, 2, 0, 1, false, false);
    follows(x, 8, 1, 0, 1, true, true);
    Statewarden y = with(1);
    y.addStep(0, 0, 1, 's', 0, 1);
    searchAll(y);
    recurs(y, 0, 1, true, true);
    recurs(y, 0, 0, false, false);
    comes(y, 0, 1, true, true);
    comes(y, 0, 2, false, false);
    follows(y, 0, 0, 0, 1, true, true);
    follows(y, 0, 1, 0, 0, false, false);
  }

  private static void goingRound() {
    Statewarden x = with(1);
    x.addStep(0, 0, 0, 'i', 3, 1);
    searchAll(x);
    for (int value = 0; value < 4; value++) {
      recurs(x, 3, value, true, true);
      comes(x, 3, value, true, true);
      follows(x, 3, 1, 3, value, true, true);
    }
    recurs(x, 4, 1, false, false);
    follows(x, 4, 0, 4, 1, false, false);
    follows(x, 4, 1, 4, 2, true, true);
  }

  private static void ringWithAWayOut() {
    Statewarden x = with(1);
    x.addStep(0, 0, 1, 's', 3, 1);
    x.addStep(0, 1, 0, 's', 3, 0);
    x.addStep(0, 1, 2, 's', 3, 2);
    x.addStep(0, 2, 2, 'k', 0, 0);
    searchAll(x);
    comes(x, 3, 1, true, true);
    recurs(x, 3, 1, false, false);
    recurs(x, 3, 2, false, false);
    comes(x, 3, 2, false, false);
    recurs(x, 3, 0, false, false);
    follows(x, 3, 2, 3, 2, true, true);
    follows(x, 3, 2, 3, 1, false, false);
    follows(x, 3, 0, 3, 1, true, true);
    follows(x, 3, 1, 3, 2, false, false);
    Check.same("components", x.components(), 2);
    recursByTaking(x, 4, 0, true);
    recursByTaking(x, 3, 2, false);
    recursByTaking(x, 4, 0, true);
    recursByTaking(x, 4, 1, false);
    recursByTaking(x, 4, 0, true);
  }

  private static void fairnessOfOneThatCanAlways() {
    Statewarden x = with(2);
    x.addStep(0, 0, 0, 'k', 0, 0);
    x.addStep(1, 0, 1, 's', 0, 1);
    searchAll(x);
    comes(x, 0, 1, false, true);
    recurs(x, 0, 1, false, true);
    follows(x, 0, 0, 0, 1, false, true);
    comes(x, 0, 0, true, true);
    recurs(x, 0, 0, false, false);
  }

  private static void fairnessIsNotAskedOfOneThatCanAtTimes() {
    Statewarden x = with(2);
    x.addStep(0, 0, 1, 's', 1, 1);
    x.addStep(0, 1, 0, 's', 1, 0);
    x.addStep(1, 0, 1, '=', 1, 1);
    x.addStep(1, 1, 1, 's', 0, 1);
    searchAll(x);
    comes(x, 0, 1, false, false);
    recurs(x, 1, 1, false, true);
    follows(x, 0, 1, 1, 1, false, true);
    Statewarden y = with(2);
    y.addStep(0, 0, 1, 's', 1, 1);
    y.addStep(0, 1, 1, 'k', 0, 0);
    y.addStep(1, 0, 1, '=', 1, 1);
    y.addStep(1, 1, 1, 's', 0, 1);
    searchAll(y);
    comes(y, 0, 1, false, true);
  }

  private static void bothDoAStepInAMoveOfTwo() {
    Statewarden x = with(3);
    x.addChannel(0);
    x.addStep(0, 0, 0, 'w', 0, 3);
    x.addStep(1, 0, 0, 'r', 0, 5);
    x.addStep(2, 0, 0, 'k', 0, 0);
    x.addStep(1, 0, 1, 's', 0, 1);
    x.addStep(1, 1, 1, 'k', 0, 0);
    searchAll(x);
    // The process 1 does steps with the process 0 for ever, and never the other one.
    comes(x, 0, 1, false, false);
    Statewarden y = with(2);
    y.addChannel(0);
    y.addStep(0, 0, 0, 'w', 0, 3);
    y.addStep(1, 0, 0, 'r', 0, 5);
    y.addStep(0, 0, 1, 's', 0, 1);
    searchAll(y);
    comes(y, 0, 1, false, false);
    Statewarden z = with(2);
    z.addChannel(0);
    z.addStep(0, 0, 1, 'w', 0, 3);
    z.addStep(0, 0, 0, 'k', 0, 0);
    z.addStep(1, 0, 1, 'r', 0, 5);
    z.addStep(1, 1, 1, 's', 0, 1);
    searchAll(z);
    // The process 1 can do its 'r' in all states, and does none: only fair runs go on.
    comes(z, 0, 1, false, true);
  }

  private static void oneThatIsNotQuietCannot() {
    Statewarden x = with(2);
    x.addStep(0, 0, 0, 'i', 3, 1);
    x.addStep(1, 0, 1, 's', 0, 1);
    x.setMarks(0, 0, true, true);
    searchAll(x);
    comes(x, 0, 1, false, false);
    recurs(x, 3, 2, true, true);
    x.setMarks(0, 0, true, false);
    searchAll(x);
    comes(x, 0, 1, false, true);
    // Once more, as what one search told of its states must not be left for the next.
    x.setMarks(0, 0, true, true);
    searchAll(x);
    comes(x, 0, 1, false, false);
    Statewarden y = with(2);
    y.addStep(0, 0, 1, 'k', 0, 0);
    y.addStep(0, 1, 1, 'k', 0, 0);
    y.addStep(1, 0, 1, 's', 0, 1);
    searchAll(y);
    comes(y, 0, 1, false, true);
    y.setMarks(0, 0, true, true);
    y.setMarks(0, 1, true, true);
    searchAll(y);
    comes(y, 0, 1, false, false);
    Statewarden z = with(2);
    z.addStep(0, 0, 0, 'k', 0, 0);
    z.addStep(1, 0, 1, 's', 0, 1);
    searchAll(z);
    comes(z, 0, 1, false, true);
    z.setMarks(0, 0, true, true);
    searchAll(z);
    comes(z, 0, 1, false, false);
  }

  private static void fairnessOfEachAloneIsNotEnough() {
    Statewarden x = with(3);
    x.addStep(0, 0, 1, 's', 3, 1);
    x.addStep(0, 1, 0, 's', 3, 0);
    x.addStep(1, 0, 1, 's', 5, 1);
    x.addStep(1, 1, 0, 's', 5, 0);
    x.addStep(2, 0, 1, 's', 7, 1);
    x.addStep(2, 1, 0, 's', 7, 0);
    searchAll(x);
    for (int variable = 3; variable < 9; variable += 2) {
      recurs(x, variable, 1, false, true);
      recurs(x, variable, 0, false, true);
      comes(x, variable, 1, false, true);
      comes(x, variable, 0, true, true);
    }
    follows(x, 3, 1, 5, 1, false, true);
    follows(x, 3, 1, 3, 0, false, true);
    recurs(x, 4, 1, false, false);
    // Only the processes 0 and 1 go round where the process 2 has done its one step.
    Statewarden y = with(3);
    y.addStep(0, 0, 0, 'i', 3, 1);
    y.addStep(1, 0, 0, 'i', 5, 1);
    y.addStep(2, 0, 1, 's', 0, 1);
    searchAll(y);
    recurs(y, 0, 1, false, true);
    recurs(y, 3, 2, false, true);
    recurs(y, 5, 3, false, true);
    recurs(y, 0, 0, false, false);
  }

  private static void startCounts() {
    Statewarden x = with(1);
    x.setStart(0, 2);
    x.addStep(0, 0, 1, 's', 0, 3);
    x.addStep(0, 1, 1, 'k', 0, 0);
    searchAll(x);
    comes(x, 0, 2, true, true);
    recurs(x, 0, 2, false, false);
    comes(x, 0, 3, true, true);
    comes(x, 0, 1, false, false);
    Check.same("distance", x.distance(0, 2), 0);
  }

  private static void followsThenOrLater() {
    Statewarden x = with(1);
    x.addStep(0, 0, 1, 's', 0, 1);
    x.addStep(0, 1, 2, 's', 1, 1);
    x.addStep(0, 2, 3, 's', 0, 0);
    x.addStep(0, 3, 4, 's', 1, 0);
    searchAll(x);
    follows(x, 0, 1, 1, 1, true, true);
    follows(x, 1, 1, 0, 1, false, false);
    follows(x, 1, 1, 0, 0, true, true);
    follows(x, 0, 1, 1, 0, true, true);
    follows(x, 0, 1, 0, 1, true, true);
    follows(x, 0, 0, 0, 1, false, false);
    follows(x, 0, 3, 1, 3, true, true);
    follows(x, 0, 0, 1, 0, true, true);
  }

  private static void followsFromEachState() {
    // The variable 0 is 1 in two places; only behind the second one does no 2 follow.
    Statewarden x = with(1);
    x.addStep(0, 0, 1, 's', 0, 1);
    x.addStep(0, 1, 2, 's', 0, 2);
    x.addStep(0, 2, 3, 's', 0, 1);
    x.addStep(0, 3, 4, 's', 0, 3);
    searchAll(x);
    follows(x, 0, 1, 0, 2, false, false);
    follows(x, 0, 0, 0, 2, true, true);
    follows(x, 0, 2, 0, 1, true, true);
    follows(x, 0, 1, 0, 3, true, true);
  }

  private static void followsOnlyBehind() {
    // A run that never sees the first number is free to miss the second one.
    Statewarden x = with(1);
    x.addStep(0, 0, 1, 's', 0, 1);
    x.addStep(0, 1, 2, 's', 1, 1);
    x.addStep(0, 0, 3, 'k', 0, 0);
    x.addStep(0, 3, 3, 'k', 0, 0);
    searchAll(x);
    follows(x, 0, 1, 1, 1, true, true);
    follows(x, 0, 0, 1, 1, false, false);
    comes(x, 1, 1, false, false);
    recurs(x, 1, 1, false, false);
    // What was there before is not later.
    Statewarden y = with(1);
    y.addStep(0, 0, 1, 's', 1, 1);
    y.addStep(0, 1, 2, 's', 1, 0);
    y.addStep(0, 2, 3, 's', 0, 1);
    searchAll(y);
    comes(y, 1, 1, true, true);
    follows(y, 0, 1, 1, 1, false, false);
  }

  private static void followsItself() {
    Statewarden x = with(2);
    x.addStep(0, 0, 0, 'i', 3, 1);
    x.addStep(1, 0, 1, 's', 0, 1);
    x.addStep(1, 1, 0, 's', 0, 0);
    searchAll(x);
    follows(x, 0, 1, 0, 1, true, true);
    follows(x, 0, 1, 0, 0, false, true);
    follows(x, 3, 2, 3, 1, false, true);
    follows(x, 3, 2, 0, 2, false, false);
  }

  private static void distances() {
    Statewarden x = with(2);
    x.addChannel(0);
    x.addStep(0, 0, 0, 'i', 3, 1);
    x.addStep(0, 0, 1, 's', 0, 1);
    x.addStep(0, 1, 2, 's', 0, 2);
    x.addStep(1, 0, 1, '=', 0, 2);
    x.addStep(1, 1, 2, 's', 6, 3);
    x.addStep(0, 0, 4, 'w', 0, 3);
    x.addStep(1, 0, 4, 'r', 0, 5);
    searchAll(x);
    Check.same("the start", x.distance(3, 0), 0);
    Check.same("3 is 1", x.distance(3, 1), 1);
    Check.same("3 is 3", x.distance(3, 3), 3);
    Check.same("0 is 2", x.distance(0, 2), 2);
    Check.same("6 is 3", x.distance(6, 3), 4);
    Check.same("5 is 2 by a move of two", x.distance(5, 2), 3);
    Check.fails("never", NONE, () -> x.distance(0, 3));
    Check.fails("never", NONE, () -> x.distance(8, 1));
  }

  private static void componentCounts() {
    searchAll(with(0));
    Statewarden x = with(1);
    searchAll(x);
    Check.same("one state", x.components(), 1);
    x.addStep(0, 0, 1, 'k', 0, 0);
    x.addStep(0, 1, 2, 'k', 0, 0);
    x.addStep(0, 2, 1, 'k', 0, 0);
    x.addStep(0, 2, 3, 'k', 0, 0);
    searchAll(x);
    Check.same("a ring between two", x.components(), 3);
    x.addStep(0, 0, 0, 'k', 0, 0);
    searchAll(x);
    Check.same("one that reaches itself", x.components(), 3);
    x.addStep(0, 3, 1, 'k', 0, 0);
    searchAll(x);
    Check.same("a way back", x.components(), 2);
    x.addStep(0, 2, 0, 'k', 0, 0);
    searchAll(x);
    Check.same("all reach all", x.components(), 1);
    Statewarden y = with(1);
    for (int location = 0; location < 6; location++) {
      y.addStep(0, location, 2 * location + 1 > 11 ? 0 : 2 * location + 1, 'k', 0, 0);
      if (location < 5) {
        y.addStep(0, location, 2 * location + 2, 'k', 0, 0);
      }
    }
    searchAll(y);
    Check.same("a tree", y.components(), 12);
    Check.same("once more", y.components(), 12);
  }

  private static void componentsOfALongChain() {
    Statewarden x = with(3);
    for (int process = 0; process < 3; process++) {
      for (int location = 0; location < 11; location++) {
        x.addStep(process, location, location + 1, 'k', 0, 0);
      }
    }
    x.addStep(2, 11, 11, 's', 0, 1);
    searchAll(x);
    Check.same("states", x.states(), 12 * 12 * 12 + 144);
    Check.same("components", x.components(), 12 * 12 * 12 + 144);
    recurs(x, 0, 1, true, true);
    comes(x, 0, 1, true, true);
    recurs(x, 0, 0, false, false);
    Check.same("distance", x.distance(0, 1), 12);
  }

  private static void takingInBothDirections() {
    // One way through all states: counting up to 3 by three variables.
    Statewarden x = with(1);
    x.addStep(0, 0, 1, '!', 3, 3);
    x.addStep(0, 1, 0, 'i', 3, 1);
    x.addStep(0, 0, 2, '=', 3, 3);
    x.addStep(0, 2, 3, '!', 4, 3);
    x.addStep(0, 3, 4, 'i', 4, 1);
    x.addStep(0, 4, 0, 's', 3, 0);
    x.addStep(0, 2, 5, '=', 4, 3);
    x.addStep(0, 5, 6, '!', 0, 3);
    x.addStep(0, 6, 7, 'i', 0, 1);
    x.addStep(0, 7, 8, 's', 3, 0);
    x.addStep(0, 8, 0, 's', 4, 0);
    x.addStep(0, 5, 9, '=', 0, 3);
    x.addStep(0, 9, 10, 's', 1, 1);
    x.addStep(0, 10, 10, 'k', 0, 0);
    searchAll(x);
    Check.same("one by one", x.components(), x.states());
    recurs(x, 1, 1, true, true);
    recurs(x, 0, 3, true, true);
    recurs(x, 0, 2, false, false);
    comes(x, 0, 2, true, true);
    Check.same("far away", x.distance(1, 1), x.states() - 1);
    // A way down the numbers: each location from 6 to 2 leads to the one before.
    Statewarden y = with(2);
    for (int location = 1; location <= 6; location++) {
      y.addStep(0, 0, location, 'k', 0, 0);
      y.addStep(0, location, location == 1 ? 7 : location - 1, location == 1 ? 's' : 'k', 0, 1);
    }
    searchAll(y);
    recurs(y, 0, 1, true, true);
    recurs(y, 0, 0, false, false);
    comes(y, 0, 1, true, true);
    Check.same("each by itself", y.components(), 8);
  }
}
