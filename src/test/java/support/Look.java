/** What can be seen of an object, as one text, to tell whether a call has changed something. */
final class Look {
  /** Those of the script that has made the object come to this. */
  private static final int MOST_CALLS = 512 - 110;

  private final Statewarden x;
  private final StringBuilder text = new StringBuilder();
  private int calls;

  interface Script {
    Statewarden make();
  }

  interface Call {
    Object make(Statewarden x);
  }

  private Look(Statewarden x) {
    this.x = x;
  }

  /**
   * A call throws an exception of exactly this class, and changes nothing: an object behind it
   * is like another one that came about in the same way, without the call.
   */
  static void refused(
      String what, Class<? extends RuntimeException> due, Script script, Call call) {
    Statewarden x = script.make();
    Check.fails(what, due, () -> call.make(x));
    Check.same(what + ", and nothing is changed:", of(x), of(script.make()));
  }

  /** Looks at all, and goes on with the object, so that nothing that is kept stays unseen. */
  static String of(Statewarden x) {
    Look look = new Look(x);
    look.atSearch();
    look.ask("search 1", y -> y.search(1));
    look.atCounts();
    look.ask("search 500", y -> y.search(500));
    look.atCounts();
    look.atRuns();
    for (char mode : Make.MODES) {
      look.ask("begin " + mode, y -> y.begin(mode));
      look.ask("search 500", y -> y.search(500));
      look.atCounts();
    }
    look.atProgram();
    Check.same("calls made to look", look.calls <= MOST_CALLS, true);
    return look.text.toString();
  }

  private void ask(String what, Call call) {
    String answer;
    try {
      answer = String.valueOf(call.make(x));
    } catch (RuntimeException e) {
      answer = e.getClass().getSimpleName();
    }
    calls++;
    text.append(what).append(' ').append(answer).append("; ");
  }

  private void atCounts() {
    ask("verdict", Statewarden::verdict);
    ask("states", Statewarden::states);
    ask("goneOn", Statewarden::goneOn);
    ask("made", Statewarden::made);
    ask("fault", Statewarden::fault);
    ask("traceLength", Statewarden::traceLength);
    ask("replays", Statewarden::replays);
    ask("meanMoves", Statewarden::meanMoves);
    ask("newShare", Statewarden::newShare);
    ask("isSound", Statewarden::isSound);
  }

  private void atSearch() {
    atCounts();
    for (int index = 0; index < 4; index++) {
      int place = index;
      ask("traceProcess " + place, y -> y.traceProcess(place));
      ask("traceStep " + place, y -> y.traceStep(place));
    }
    for (int number = 0; number < 5; number++) {
      int state = number;
      ask("codeOf " + state, y -> y.codeOf(state));
      ask("moves " + state, y -> y.moves(state));
      ask("reached by 0 from " + state, y -> y.reached(state, 0));
      ask("reached by 1 from " + state, y -> y.reached(state, 1));
      for (int variable = 0; variable < 9; variable += 4) {
        int asked = variable;
        ask(asked + " in " + state, y -> y.variableIn(state, asked));
      }
    }
    atRuns();
  }

  private void atRuns() {
    ask("recurs", y -> y.recurs(3, 1, true));
    ask("recursByTaking", y -> y.recursByTaking(3, 1));
    ask("comes", y -> y.comes(3, 1, false));
    ask("follows", y -> y.follows(3, 1, 0, 1, true));
    ask("distance", y -> y.distance(0, 1));
    ask("components", Statewarden::components);
  }

  /** Lays what must be the next: its numbers tell how much there was. */
  private void atProgram() {
    for (int process = 0; process < 3; process++) {
      int other = (process + 1) % 3;
      int one = process;
      ask("areAlike " + one, y -> y.areAlike(one, other));
      for (int location = 0; location < 12; location += 11) {
        int asked = location;
        ask("setMarks " + one + " at " + asked, y -> y.setMarks(one, asked, false, false));
        ask("setMarks " + one + " at " + asked, y -> y.setMarks(one, asked, true, true));
      }
      ask("addStep " + one, y -> y.addStep(one, 0, 11, 'k', 0, 0));
    }
    for (int variable = 0; variable < 9; variable++) {
      int asked = variable;
      ask("setStart " + asked, y -> y.setStart(asked, 1));
    }
    ask("addInvariant", y -> y.addInvariant(0, 2));
    ask("addStep with the last channel", y -> y.addStep(0, 0, 0, 'w', 1, 0));
    ask("addChannel", y -> y.addChannel(1));
    ask("addStep with the last process", y -> y.addStep(2, 0, 0, 'k', 0, 0));
    ask("addProcess", Statewarden::addProcess);
  }
}
