import com.sun.management.ThreadMXBean;
import java.lang.management.ManagementFactory;

/** What the dearest runs of calls make, the object itself included, stays in the room of a run. */
public final class RoomTest {
  /** 7.3 million fields and elements are the room of all calls of a run, most of them ints. */
  private static final long MOST_BYTES = 7_300_000L * 4;

  private static final ThreadMXBean THREADS =
      (ThreadMXBean) ManagementFactory.getThreadMXBean();

  private RoomTest() {}

  public static void main(String[] args) {
    questions();
    searches();
    manyEdges();
    Check.end();
  }

  private static long allocated() {
    return THREADS.getThreadAllocatedBytes(Thread.currentThread().getId());
  }

  private static Statewarden counters() {
    Statewarden x = new Statewarden();
    for (int process = 0; process < 3; process++) {
      x.addProcess();
      x.addStep(process, 0, 0, 'i', 3 + 2 * process, 1);
      x.addStep(process, 0, 0, 'i', 4 + 2 * process, process == 0 ? 1 : 2);
    }
    return x;
  }

  private static void searchAll(Statewarden x, char mode) {
    x.begin(mode);
    for (int turn = 0; turn < 4; turn++) {
      x.search(500);
    }
  }

  private static void questions() {
    long before = allocated();
    Statewarden x = counters();
    searchAll(x, 'a');
    Check.same("1024 states", x.states(), 1024);
    x.isSound();
    for (int call = 0; call < 60; call++) {
      x.recurs(call % 9, call % 4, true);
      x.recursByTaking(call % 9, call % 4);
      x.comes(call % 9, call % 4, true);
      x.follows(call % 9, call % 4, (call + 1) % 9, 1, false);
      x.components();
      x.isSound();
      x.meanMoves();
    }
    Check.same("the room of many questions", allocated() - before < MOST_BYTES, true);
  }

  private static void searches() {
    long before = allocated();
    Statewarden x = counters();
    x.setMarks(0, 0, true, false);
    for (int turn = 0; turn < 25; turn++) {
      for (char mode : new char[] {'a', 'p', 's', 'h'}) {
        searchAll(x, mode);
      }
    }
    Check.same("the room of many searches", allocated() - before < MOST_BYTES, true);
  }

  /** A 'w' can be done with each 'r' of the two others: 14 times 28 moves are the most. */
  private static void manyEdges() {
    Statewarden x = handovers(14);
    searchAll(x, 'a');
    Check.same("moves", x.moves(0), 392);
    Check.same("the last move reaches a state", x.reached(0, 391) > 0, true);
    Check.same("states", x.states(), 16);
    Check.same("verdict", x.verdict(), 'n');
    Check.same("made", x.made(), 16L * 392);
    Check.same("each by itself, as a 1 stays", x.components(), 16);
    Check.same("sound", x.isSound(), true);
    long before = allocated();
    Statewarden y = handovers(13);
    y.addStep(0, 0, 0, 'i', 4, 1);
    for (int turn = 0; turn < 3; turn++) {
      searchAll(y, 'a');
      Check.same("states", y.states(), 1024);
      Check.same("made", y.made(), 1024L * 365);
      Check.same("components", y.components(), 1);
      Check.same("recurs", y.recurs(5, 1, false), false);
      Check.same("recursByTaking", y.recursByTaking(4, 1), false);
      Check.same("recurs", y.recurs(4, 1, true), false);
      Check.same("comes", y.comes(5, 0, true), true);
      Check.same("mean", y.meanMoves(), 365.0);
      Check.same("sound", y.isSound(), true);
    }
    Check.same("the room of all edges", allocated() - before < MOST_BYTES, true);
  }

  private static Statewarden handovers(int sends) {
    Statewarden x = new Statewarden();
    x.addChannel(0);
    for (int process = 0; process < 3; process++) {
      x.addProcess();
      for (int number = 0; number < (process == 0 ? sends : 14); number++) {
        int own = process == 0 ? 4 : 3 + 2 * process + number % 2;
        x.addStep(process, 0, 0, process == 0 ? 'w' : 'r', 0, own);
      }
      x.setMarks(process, 0, true, false);
    }
    x.setStart(4, 1);
    return x;
  }
}
