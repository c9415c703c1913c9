/** Objects that several tests begin with, and codes of states. */
final class Make {
  static final char[] MODES = {'a', 'p', 's', 'h'};
  static final char[] KINDS = {'k', 's', 'i', '=', '!', 'w', 'r', 'a'};
  /** A start for each variable, so that a variable is not easily taken for another one. */
  static final int[] STARTS = {1, 2, 3, 0, 2, 3, 1, 0, 3};

  private Make() {}

  /** Processes without steps and marks. */
  static Statewarden with(int processes) {
    Statewarden x = new Statewarden();
    for (int process = 0; process < processes; process++) {
      x.addProcess();
    }
    return x;
  }

  /** Processes without steps; all locations are ends. */
  static Statewarden ending(int processes) {
    Statewarden x = with(processes);
    for (int process = 0; process < processes; process++) {
      for (int location = 0; location < 12; location++) {
        x.setMarks(process, location, true, false);
      }
    }
    return x;
  }

  /** Each process goes from the location 0 to the last one, by 'k'; all locations are ends. */
  static Statewarden chains(int processes, int last) {
    Statewarden x = ending(processes);
    for (int process = 0; process < processes; process++) {
      for (int location = 0; location < last; location++) {
        x.addStep(process, location, location + 1, 'k', 0, 0);
      }
    }
    return x;
  }

  /**
   * One way on which five variables are counted up, through 1998 states, and as many ahead of it
   * as there are steps of a second process, which is quiet.
   */
  static Statewarden longWay(int ahead) {
    Statewarden x = ending(2);
    int[] counters = {3, 4, 0, 1, 2};
    for (int place = 0; place < 5; place++) {
      x.addStep(0, place, 5 + place, 'i', counters[place], 1);
      x.addStep(0, 5 + place, 0, '!', counters[place], 0);
      if (place < 4) {
        x.addStep(0, 5 + place, place + 1, '=', counters[place], 0);
      }
    }
    x.setStart(3, 3);
    x.setStart(0, 1);
    x.setStart(2, 1);
    for (int location = 0; location < ahead; location++) {
      x.addStep(1, location, location + 1, 'k', 0, 0);
      x.setMarks(1, location, true, true);
    }
    return x;
  }

  /** Begins a search and goes on until it has ended. */
  static char searchAll(Statewarden x, char mode) {
    x.begin(mode);
    for (int turn = 0; turn < 5; turn++) {
      x.search(500);
    }
    return x.verdict();
  }

  /** The code if only locations are other ones than 0. */
  static long at(int first, int second, int third) {
    return Check.code(
        Check.row(first, 0, 0, second, 0, 0, third, 0, 0), new int[3], new int[6]);
  }

  /** What a process is in a state, from its code. */
  static int location(long code, int process) {
    long rest = code / at(0, 0, 1);
    for (int other = 2; other > process; other--) {
      rest /= 192;
    }
    return (int) (rest % 12);
  }

  /** The six last numbers of a code: of each channel how many, the first and the second one. */
  static String channels(long code) {
    long rest = code % (48 * 48);
    StringBuilder text = new StringBuilder();
    int[] parts = {3 * 4 * 4 * 4 * 4, 3 * 4 * 4 * 4, 3 * 4 * 4, 16, 4, 1};
    for (int part : parts) {
      text.append(rest / part);
      rest %= part;
    }
    return text.toString();
  }
}
