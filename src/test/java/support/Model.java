import java.util.ArrayDeque;
import java.util.ArrayList;
import java.util.BitSet;
import java.util.HashMap;
import java.util.List;
import java.util.Map;
import java.util.NoSuchElementException;
import java.util.function.IntPredicate;

/**
 * The document once more, written as plainly as it can be, slow and with no regard to room, and
 * wherever possible in another way than the program: tests compare the program with it.
 */
public final class Model {
  private record Step(int from, int to, char kind, int a, int b) {}

  private record Move(int process, int number, int other, int otherNumber) {}

  private record Edge(int to, boolean[] does) {}

  private static final class State {
    final int[] at = new int[3];
    final int[] value = new int[9];
    final List<List<Integer>> inside = List.of(new ArrayList<>(), new ArrayList<>());

    State copy() {
      State copy = new State();
      System.arraycopy(at, 0, copy.at, 0, 3);
      System.arraycopy(value, 0, copy.value, 0, 9);
      for (int c = 0; c < 2; c++) {
        copy.inside.get(c).addAll(inside.get(c));
      }
      return copy;
    }
  }

  private final List<List<Step>> steps = new ArrayList<>();
  private final List<Integer> rooms = new ArrayList<>();
  private final int[] starts = new int[9];
  private final boolean[][] ends = new boolean[3][12];
  private final boolean[][] quiets = new boolean[3][12];
  private final List<int[]> invariants = new ArrayList<>();

  private boolean isOn;
  private char mode;
  private List<State> found;
  private Map<Long, Integer> numbers;
  private List<Integer> parents;
  private List<Move> ways;
  private int gone;
  private long makes;
  private char bad;
  private List<Move> trace;

  public Model() {}

  public int addProcess() {
    if (steps.size() == 3) {
      throw new IllegalStateException();
    }
    isOn = false;
    steps.add(new ArrayList<>());
    return steps.size() - 1;
  }

  public int addStep(int process, int from, int to, char kind, int a, int b) {
    needProcess(process);
    if (from < 0 || from > 11 || to < 0 || to > 11 || "ksi=!wra".indexOf(kind) < 0) {
      throw new IllegalArgumentException();
    }
    boolean isSending = kind == 'w' || kind == 'r';
    int variable = isSending ? b : a;
    boolean isHere = variable >= 0 && variable <= 2
        || variable == 3 + 2 * process || variable == 4 + 2 * process;
    boolean isFine = isSending ? a >= 0 && a < rooms.size() : b >= 0 && b <= 3;
    if (kind != 'k' && !(isHere && isFine)) {
      throw new IllegalArgumentException();
    }
    if (steps.get(process).size() == 14) {
      throw new IllegalStateException();
    }
    isOn = false;
    steps.get(process).add(new Step(from, to, kind, a, b));
    return steps.get(process).size() - 1;
  }

  public int addChannel(int room) {
    if (room < 0 || room > 2) {
      throw new IllegalArgumentException();
    }
    if (rooms.size() == 2) {
      throw new IllegalStateException();
    }
    isOn = false;
    rooms.add(room);
    return rooms.size() - 1;
  }

  public int setStart(int variable, int value) {
    needPair(variable, value);
    isOn = false;
    int before = starts[variable];
    starts[variable] = value;
    return before;
  }

  public boolean setMarks(int process, int location, boolean isEnd, boolean isQuiet) {
    needProcess(process);
    if (location < 0 || location > 11) {
      throw new IllegalArgumentException();
    }
    isOn = false;
    boolean isOther =
        ends[process][location] != isEnd || quiets[process][location] != isQuiet;
    ends[process][location] = isEnd;
    quiets[process][location] = isQuiet;
    return isOther;
  }

  public int addInvariant(int variable, int value) {
    needPair(variable, value);
    if (invariants.size() == 4) {
      throw new IllegalStateException();
    }
    isOn = false;
    invariants.add(new int[] {variable, value});
    return invariants.size();
  }

  public boolean areAlike(int process, int other) {
    needProcess(process);
    needProcess(other);
    return likeness(process).equals(likeness(other));
  }

  /** A text in which own variables are called by their place. */
  private String likeness(int process) {
    StringBuilder text = new StringBuilder();
    for (Step s : steps.get(process)) {
      text.append(s.from).append('>').append(s.to).append(s.kind);
      if (s.kind == 'w' || s.kind == 'r') {
        text.append(s.a).append(',').append(name(s.b));
      } else if (s.kind != 'k') {
        text.append(name(s.a)).append(',').append(s.b);
      }
      text.append(';');
    }
    for (int l = 0; l < 12; l++) {
      text.append(ends[process][l] ? 'e' : '-').append(quiets[process][l] ? 'q' : '-');
    }
    return text.append(starts[3 + 2 * process]).append(starts[4 + 2 * process]).toString();
  }

  private static String name(int variable) {
    return variable < 3 ? "shared" + variable : "own" + (variable - 3) % 2;
  }

  public char begin(char newMode) {
    if ("apsh".indexOf(newMode) < 0) {
      throw new IllegalArgumentException();
    }
    if (newMode == 's') {
      for (int[] invariant : invariants) {
        int owner = invariant[0] < 3 ? 3 : (invariant[0] - 3) / 2;
        for (int other = 0; owner < steps.size() && other < steps.size(); other++) {
          if (other != owner && areAlike(owner, other)) {
            throw new UnsupportedOperationException();
          }
        }
      }
    }
    isOn = true;
    mode = newMode;
    found = new ArrayList<>();
    numbers = new HashMap<>();
    parents = new ArrayList<>();
    ways = new ArrayList<>();
    gone = 0;
    makes = 0;
    bad = 0;
    trace = null;
    State start = start();
    find(start, -1, null);
    return verdict();
  }

  private State start() {
    State start = new State();
    System.arraycopy(starts, 0, start.value, 0, 9);
    return start;
  }

  private void find(State state, int parent, Move way) {
    numbers.put(key(state), found.size());
    found.add(state);
    parents.add(parent);
    ways.add(way);
    if (isBroken(state)) {
      bad = 'i';
      trace = wayTo(found.size() - 1);
    }
  }

  private boolean isBroken(State state) {
    for (int[] invariant : invariants) {
      if (state.value[invariant[0]] == invariant[1]) {
        return true;
      }
    }
    return false;
  }

  private List<Move> wayTo(int state) {
    List<Move> way = new ArrayList<>();
    for (int s = state; s != 0; s = parents.get(s)) {
      way.add(0, ways.get(s));
    }
    return way;
  }

  private boolean hasEnded() {
    return bad != 0 || found.size() == 2000 || gone == found.size();
  }

  public int search(int budget) {
    needSearch();
    if (budget < 1 || budget > 500) {
      throw new IllegalArgumentException();
    }
    int before = found.size();
    for (int i = 0; i < budget && !hasEnded(); i++) {
      goOn(gone++);
    }
    return found.size() - before;
  }

  private void goOn(int from) {
    State state = found.get(from);
    List<Move> all = movesOf(state);
    if (isStuck(state)) {
      bad = 'd';
      trace = wayTo(from);
      return;
    }
    for (Move move : mode == 'p' ? fewer(state, all) : all) {
      if (isRefuted(state, move)) {
        bad = 'a';
        trace = wayTo(from);
        trace.add(move);
        return;
      }
      makes++;
      State next = least(after(state, move));
      if (indexOf(next) < 0) {
        find(next, from, move);
        if (bad != 0 || found.size() == 2000) {
          return;
        }
      }
    }
  }

  private boolean isStuck(State state) {
    boolean isAtNoEnd = false;
    for (int p = 0; p < steps.size(); p++) {
      isAtNoEnd |= !ends[p][state.at[p]];
    }
    return isAtNoEnd && movesOf(state).isEmpty();
  }

  private boolean isRefuted(State state, Move move) {
    Step s = step(move.process, move.number);
    return s.kind == 'a' && state.value[s.a] == s.b;
  }

  private Step step(int process, int number) {
    return steps.get(process).get(number);
  }

  private int indexOf(State state) {
    return numbers.getOrDefault(key(state), -1);
  }

  private long key(State state) {
    return mode == 'h' ? code(state) % 509 : code(state);
  }

  private List<Move> fewer(State state, List<Move> all) {
    for (int p = 0; p < steps.size(); p++) {
      List<Move> led = new ArrayList<>();
      for (Move move : all) {
        if (move.process == p) {
          led.add(move);
        }
      }
      boolean isFine = !led.isEmpty();
      for (Step s : steps.get(p)) {
        boolean isOwn = s.a == 3 + 2 * p || s.a == 4 + 2 * p;
        if (s.from == state.at[p]) {
          isFine &= s.kind == 'k' || "si=!".indexOf(s.kind) >= 0 && isOwn;
        }
      }
      for (int[] invariant : invariants) {
        isFine &= invariant[0] != 3 + 2 * p && invariant[0] != 4 + 2 * p;
      }
      for (Move move : led) {
        isFine &= indexOf(after(state, move)) < 0;
      }
      if (isFine) {
        return led;
      }
    }
    return all;
  }

  /** Of all orders of the processes that give alike ones to alike ones, that with least code. */
  private State least(State state) {
    if (mode != 's') {
      return state;
    }
    State best = state;
    int[][] orders = {{0, 1, 2}, {0, 2, 1}, {1, 0, 2}, {1, 2, 0}, {2, 0, 1}, {2, 1, 0}};
    for (int[] order : orders) {
      boolean isAllowed = true;
      State other = state.copy();
      for (int p = 0; p < 3; p++) {
        int q = order[p];
        boolean areThere = p < steps.size() && q < steps.size();
        isAllowed &= p == q || areThere && areAlike(p, q);
        other.at[p] = state.at[q];
        other.value[3 + 2 * p] = state.value[3 + 2 * q];
        other.value[4 + 2 * p] = state.value[4 + 2 * q];
      }
      if (isAllowed && code(other) < code(best)) {
        best = other;
      }
    }
    return best;
  }

  private static long code(State s) {
    long code = 0;
    for (int p = 0; p < 3; p++) {
      code = ((code * 12 + s.at[p]) * 4 + s.value[3 + 2 * p]) * 4 + s.value[4 + 2 * p];
    }
    for (int v = 0; v < 3; v++) {
      code = code * 4 + s.value[v];
    }
    for (List<Integer> queue : s.inside) {
      code = code * 3 + queue.size();
      code = code * 4 + (queue.size() > 0 ? queue.get(0) : 0);
      code = code * 4 + (queue.size() > 1 ? queue.get(1) : 0);
    }
    return code;
  }

  private List<Move> movesOf(State state) {
    List<Move> all = new ArrayList<>();
    for (int p = 0; p < steps.size(); p++) {
      for (int n = 0; n < steps.get(p).size(); n++) {
        if (step(p, n).from == state.at[p]) {
          addMoves(state, p, n, all);
        }
      }
    }
    for (Move first : all) {
      int p = first.process;
      if (quiets[p][state.at[p]]) {
        all.removeIf(move -> move.process != p);
        return all;
      }
    }
    return all;
  }

  private void addMoves(State state, int p, int n, List<Move> all) {
    Step s = step(p, n);
    boolean isSending = s.kind == 'w' || s.kind == 'r';
    if (isSending && rooms.get(s.a) == 0) {
      for (int q = 0; s.kind == 'w' && q < steps.size(); q++) {
        for (int m = 0; q != p && m < steps.get(q).size(); m++) {
          Step r = step(q, m);
          if (r.kind == 'r' && r.a == s.a && r.from == state.at[q]) {
            all.add(new Move(p, n, q, m));
          }
        }
      }
      return;
    }
    boolean isPossible = s.kind == '=' ? state.value[s.a] == s.b
        : s.kind == '!' ? state.value[s.a] != s.b
        : s.kind == 'w' ? state.inside.get(s.a).size() < rooms.get(s.a)
        : s.kind != 'r' || !state.inside.get(s.a).isEmpty();
    if (isPossible) {
      all.add(new Move(p, n, -1, -1));
    }
  }

  private State after(State state, Move move) {
    State next = state.copy();
    Step s = step(move.process, move.number);
    next.at[move.process] = s.to;
    if (move.other >= 0) {
      Step r = step(move.other, move.otherNumber);
      next.at[move.other] = r.to;
      next.value[r.b] = state.value[s.b];
    } else if (s.kind == 's') {
      next.value[s.a] = s.b;
    } else if (s.kind == 'i') {
      next.value[s.a] = (state.value[s.a] + s.b) % 4;
    } else if (s.kind == 'w') {
      next.inside.get(s.a).add(state.value[s.b]);
    } else if (s.kind == 'r') {
      next.value[s.b] = next.inside.get(s.a).remove(0);
    }
    return next;
  }

  public char verdict() {
    needSearch();
    return bad != 0 ? 'f' : mode != 'h' && hasEnded() && found.size() < 2000 ? 'n' : '?';
  }

  public int states() {
    needSearch();
    return found.size();
  }

  public int goneOn() {
    needSearch();
    return gone;
  }

  public long codeOf(int state) {
    return code(stateAt(state));
  }

  private State stateAt(int state) {
    needSearch();
    if (state < 0 || state >= found.size()) {
      throw new IndexOutOfBoundsException();
    }
    return found.get(state);
  }

  public int moves(int state) {
    return movesOf(stateAt(state)).size();
  }

  public long reached(int state, int move) {
    List<Move> all = movesOf(stateAt(state));
    if (move < 0 || move >= all.size()) {
      throw new NoSuchElementException();
    }
    return code(after(stateAt(state), all.get(move)));
  }

  public int variableIn(int state, int variable) {
    State at = stateAt(state);
    needPair(variable, 0);
    return at.value[variable];
  }

  public long made() {
    needSearch();
    return makes;
  }

  public char fault() {
    needFault();
    return bad;
  }

  public int traceLength() {
    needFault();
    return trace.size();
  }

  public int traceProcess(int index) {
    return moveAt(index).process;
  }

  public int traceStep(int index) {
    return moveAt(index).number;
  }

  private Move moveAt(int index) {
    needFault();
    if (index < 0 || index >= trace.size()) {
      throw new IndexOutOfBoundsException();
    }
    return trace.get(index);
  }

  public boolean replays() {
    needFault();
    State at = start();
    boolean isRefuted = false;
    for (Move move : trace) {
      if (isRefuted || !movesOf(at).contains(move)) {
        return false;
      }
      isRefuted = isRefuted(at, move);
      at = least(after(at, move));
    }
    return bad == 'a' ? isRefuted : bad == 'd' ? isStuck(at) : isBroken(at);
  }

  public boolean recurs(int variable, int value, boolean isFair) {
    needPair(variable, value);
    needAll();
    return !canStay(s -> true, s -> found.get(s).value[variable] != value, isFair);
  }

  public boolean recursByTaking(int variable, int value) {
    needPair(variable, value);
    needAll();
    List<List<Edge>> edges = edges();
    BitSet left = new BitSet();
    for (int s = 0; s < found.size(); s++) {
      left.set(s, found.get(s).value[variable] != value);
    }
    for (boolean isChanged = true; isChanged; ) {
      isChanged = false;
      for (int s = 0; s < found.size(); s++) {
        if (left.get(s) && edges.get(s).stream().noneMatch(e -> left.get(e.to))) {
          left.clear(s);
          isChanged = true;
        }
      }
    }
    return left.isEmpty();
  }

  public boolean comes(int variable, int value, boolean isFair) {
    needPair(variable, value);
    needAll();
    return !canStay(s -> s == 0, s -> found.get(s).value[variable] != value, isFair);
  }

  public boolean follows(int variable, int value, int other, int otherValue, boolean isFair) {
    needPair(variable, value);
    needPair(other, otherValue);
    needAll();
    return !canStay(
        s -> found.get(s).value[variable] == value,
        s -> found.get(s).value[other] != otherValue,
        isFair);
  }

  /**
   * Whether a run, fair or any, begins at one of the seeds and stays inside. Runs are put side by
   * side with a process that is waited for: the wait goes on to the next process when this one
   * does a step or cannot do one. A run is fair if the wait goes round for ever.
   */
  private boolean canStay(IntPredicate isSeed, IntPredicate isInside, boolean isFair) {
    List<List<Edge>> edges = edges();
    BitSet reached = new BitSet();
    for (int s = 0; s < found.size(); s++) {
      if (isSeed.test(s) && isInside.test(s)) {
        flood(3 * s, edges, isInside, isFair, reached);
      }
    }
    for (int node = reached.nextSetBit(0); node >= 0; node = reached.nextSetBit(node + 1)) {
      if (isFair && node % 3 != 2) {
        continue;
      }
      for (Edge edge : edges.get(node / 3)) {
        int next = nextNode(node, edge, isFair);
        if (isInside.test(edge.to) && (!isFair || next % 3 == 0)) {
          BitSet behind = new BitSet();
          flood(next, edges, isInside, isFair, behind);
          if (behind.get(node)) {
            return true;
          }
        }
      }
    }
    return false;
  }

  private void flood(
      int from, List<List<Edge>> edges, IntPredicate isInside, boolean isFair, BitSet reached) {
    ArrayDeque<Integer> open = new ArrayDeque<>();
    reached.set(from);
    open.add(from);
    while (!open.isEmpty()) {
      int node = open.remove();
      for (Edge edge : edges.get(node / 3)) {
        int next = nextNode(node, edge, isFair);
        if (isInside.test(edge.to) && !reached.get(next)) {
          reached.set(next);
          open.add(next);
        }
      }
    }
  }

  private int nextNode(int node, Edge edge, boolean isFair) {
    int wait = node % 3;
    boolean isServed = edge.does[wait] || !canStep(node / 3, wait);
    return 3 * edge.to + (isFair && isServed ? (wait + 1) % 3 : wait);
  }

  private boolean[][] canStep;

  private boolean canStep(int state, int process) {
    return canStep[state][process];
  }

  private List<List<Edge>> edges() {
    List<List<Edge>> edges = new ArrayList<>();
    canStep = new boolean[found.size()][3];
    for (int s = 0; s < found.size(); s++) {
      List<Edge> out = new ArrayList<>();
      for (Move move : movesOf(found.get(s))) {
        boolean[] does = new boolean[3];
        does[move.process] = true;
        canStep[s][move.process] = true;
        if (move.other >= 0) {
          does[move.other] = true;
          canStep[s][move.other] = true;
        }
        out.add(new Edge(indexOf(after(found.get(s), move)), does));
      }
      if (out.isEmpty()) {
        out.add(new Edge(s, new boolean[3]));
      }
      edges.add(out);
    }
    return edges;
  }

  public int distance(int variable, int value) {
    needPair(variable, value);
    needAll();
    int least = -1;
    for (int s = 0; s < found.size(); s++) {
      int length = wayTo(s).size();
      if (found.get(s).value[variable] == value && (least < 0 || length < least)) {
        least = length;
      }
    }
    if (least < 0) {
      throw new NoSuchElementException();
    }
    return least;
  }

  public int components() {
    needAll();
    List<List<Edge>> edges = edges();
    List<BitSet> reach = new ArrayList<>();
    for (int s = 0; s < found.size(); s++) {
      BitSet reached = new BitSet();
      flood(3 * s, edges, t -> true, false, reached);
      reach.add(reached);
    }
    int count = 0;
    for (int s = 0; s < found.size(); s++) {
      boolean isFirst = true;
      for (int t = 0; t < s; t++) {
        isFirst &= !(reach.get(s).get(3 * t) && reach.get(t).get(3 * s));
      }
      count += isFirst ? 1 : 0;
    }
    return count;
  }

  public double meanMoves() {
    needSearch();
    long sum = 0;
    for (State state : found) {
      sum += movesOf(state).size();
    }
    return (double) sum / (double) found.size();
  }

  public float newShare() {
    needSearch();
    if (makes == 0) {
      throw new ArithmeticException();
    }
    return (float) (found.size() - 1) / (float) makes;
  }

  public boolean isSound() {
    return true;
  }

  private void needProcess(int process) {
    if (process < 0 || process >= steps.size()) {
      throw new IndexOutOfBoundsException();
    }
  }

  private static void needPair(int variable, int value) {
    if (variable < 0 || variable > 8 || value < 0 || value > 3) {
      throw new IllegalArgumentException();
    }
  }

  private void needSearch() {
    if (!isOn) {
      throw new IllegalStateException();
    }
  }

  private void needFault() {
    needSearch();
    if (bad == 0) {
      throw new NoSuchElementException();
    }
  }

  private void needAll() {
    if (!isOn || mode != 'a' || verdict() != 'n') {
      throw new IllegalStateException();
    }
  }
}
