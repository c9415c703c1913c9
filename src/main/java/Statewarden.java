import java.util.Arrays;
import java.util.NoSuchElementException;

/**
 * A model checker for processes with channels: a program is laid step by step, its states are
 * searched, faults are told with the moves that lead there, and questions about all runs are
 * answered once a search has left nothing out.
 */
public final class Statewarden {
  private static final int MOST_PROCESSES = 3;
  private static final int LOCATIONS = 12;
  private static final int MOST_STEPS = 14;
  private static final int SHARED = 3;
  private static final int OWN = 2;
  /** Of each process the first of its own variables. */
  private static final int[] FIRST_OWN = {3, 5, 7};
  private static final int VARIABLES = 9;
  private static final int NUMBERS = 4;
  private static final int MOST_CHANNELS = 2;
  private static final int MOST_ROOM = 2;
  private static final int MOST_INVARIANTS = 4;
  private static final int MOST_STATES = 2000;
  private static final int MOST_BUDGET = 500;
  private static final int REMAINDERS = 509;
  /** 14 steps 'w' of one process, each with the 28 steps 'r' of the two others. */
  private static final int MOST_MOVES = 392;
  private static final int ALL_PROCESSES = 7;
  private static final int NONE = -1;
  private static final char NO_FAULT = '-';
  private static final int END = 1;
  private static final int QUIET = 2;

  private final Program program;
  private final Search current;
  private final Runs runs;

  public Statewarden() {
    Found found = new Found();
    Graph graph = new Graph();
    program = new Program();
    current = new Search(program, found, graph);
    runs = new Runs(found, graph);
  }

  // ---- programs

  public int addProcess() throws IllegalStateException {
    if (program.processCount >= MOST_PROCESSES) {
      throw new IllegalStateException("there are 3 processes");
    }
    current.drop();
    return program.newProcess();
  }

  public int addStep(int process, int from, int to, char kind, int a, int b)
      throws IndexOutOfBoundsException, IllegalArgumentException, IllegalStateException {
    needProcess(process);
    needLocation(from);
    needLocation(to);
    if (!program.fits(process, kind, a, b)) {
      throw new IllegalArgumentException("no such kind, variable, number or channel");
    }
    if (program.stepCounts[process] >= MOST_STEPS) {
      throw new IllegalStateException("the process has 14 steps");
    }
    current.drop();
    return program.newStep(process, from, to, kind, a, b);
  }

  public int addChannel(int room) throws IllegalArgumentException, IllegalStateException {
    if (room < 0 || room > MOST_ROOM) {
      throw new IllegalArgumentException("a room is 0 to 2");
    }
    if (program.channelCount >= MOST_CHANNELS) {
      throw new IllegalStateException("there are 2 channels");
    }
    current.drop();
    return program.newChannel(room);
  }

  public int setStart(int variable, int value) throws IllegalArgumentException {
    needVariable(variable);
    needNumber(value);
    current.drop();
    int before = program.starts[variable];
    program.starts[variable] = value;
    return before;
  }

  public boolean setMarks(int process, int location, boolean isEnd, boolean isQuiet)
      throws IndexOutOfBoundsException, IllegalArgumentException {
    needProcess(process);
    needLocation(location);
    current.drop();
    return program.putMarks(process, location, (isEnd ? END : 0) | (isQuiet ? QUIET : 0));
  }

  public int addInvariant(int variable, int value)
      throws IllegalArgumentException, IllegalStateException {
    needVariable(variable);
    needNumber(value);
    if (program.invariantCount >= MOST_INVARIANTS) {
      throw new IllegalStateException("there are 4 invariants");
    }
    current.drop();
    return program.newInvariant(variable, value);
  }

  public boolean areAlike(int process, int other) throws IndexOutOfBoundsException {
    needProcess(process);
    needProcess(other);
    return program.hasAlike(process, other);
  }

  // ---- the search

  public char begin(char mode) throws IllegalArgumentException, UnsupportedOperationException {
    if (mode != 'a' && mode != 'p' && mode != 's' && mode != 'h') {
      throw new IllegalArgumentException("a mode is 'a', 'p', 's' or 'h'");
    }
    if (mode == 's' && program.hasInvariantOfAlike()) {
      throw new UnsupportedOperationException("an invariant tells alike processes apart");
    }
    current.beginIn(mode);
    return current.judge();
  }

  public int search(int budget) throws IllegalStateException, IllegalArgumentException {
    needSearch();
    if (budget < 1 || budget > MOST_BUDGET) {
      throw new IllegalArgumentException("a budget is 1 to 500");
    }
    return current.goOn(budget);
  }

  public char verdict() throws IllegalStateException {
    needSearch();
    return current.judge();
  }

  public int states() throws IllegalStateException {
    needSearch();
    return current.found.count;
  }

  public int goneOn() throws IllegalStateException {
    needSearch();
    return current.goneOnCount;
  }

  public long codeOf(int state) throws IllegalStateException, IndexOutOfBoundsException {
    needSearch();
    needState(state);
    return current.found.codes[state];
  }

  public int moves(int state) throws IllegalStateException, IndexOutOfBoundsException {
    needSearch();
    needState(state);
    return current.countMoves(state);
  }

  public long reached(int state, int move)
      throws IllegalStateException, IndexOutOfBoundsException, NoSuchElementException {
    needSearch();
    needState(state);
    if (move < 0 || move >= current.countMoves(state)) {
      throw new NoSuchElementException("no such move");
    }
    return current.codeBehind(state, move);
  }

  public int variableIn(int state, int variable)
      throws IllegalStateException, IndexOutOfBoundsException, IllegalArgumentException {
    needSearch();
    needState(state);
    needVariable(variable);
    return current.found.valueIn(state, variable);
  }

  public long made() throws IllegalStateException {
    needSearch();
    return current.madeCount;
  }

  // ---- faults and traces

  public char fault() throws IllegalStateException, NoSuchElementException {
    needFault();
    return current.faultKind;
  }

  public int traceLength() throws IllegalStateException, NoSuchElementException {
    needFault();
    return current.traceCount;
  }

  public int traceProcess(int index)
      throws IllegalStateException, NoSuchElementException, IndexOutOfBoundsException {
    needFault();
    needPlace(index);
    return Program.processOf(Moves.leadOf(current.trace[index]));
  }

  public int traceStep(int index)
      throws IllegalStateException, NoSuchElementException, IndexOutOfBoundsException {
    needFault();
    needPlace(index);
    return Program.numberOf(Moves.leadOf(current.trace[index]));
  }

  public boolean replays() throws IllegalStateException, NoSuchElementException {
    needFault();
    return current.doesReplay();
  }

  // ---- runs; all of these need the verdict 'n' of a search in the mode 'a'

  public boolean recurs(int variable, int value, boolean isFair)
      throws IllegalArgumentException, IllegalStateException {
    needVariable(variable);
    needNumber(value);
    needAllRuns();
    return !runs.canLeaveForGood(variable, value, isFair);
  }

  public boolean recursByTaking(int variable, int value)
      throws IllegalArgumentException, IllegalStateException {
    needVariable(variable);
    needNumber(value);
    needAllRuns();
    return runs.isAllTaken(variable, value);
  }

  public boolean comes(int variable, int value, boolean isFair)
      throws IllegalArgumentException, IllegalStateException {
    needVariable(variable);
    needNumber(value);
    needAllRuns();
    return !runs.canMiss(variable, value, isFair);
  }

  public boolean follows(int variable, int value, int other, int otherValue, boolean isFair)
      throws IllegalArgumentException, IllegalStateException {
    needVariable(variable);
    needNumber(value);
    needVariable(other);
    needNumber(otherValue);
    needAllRuns();
    return !runs.canMissBehind(variable, value, other, otherValue, isFair);
  }

  public int distance(int variable, int value)
      throws IllegalArgumentException, IllegalStateException, NoSuchElementException {
    needVariable(variable);
    needNumber(value);
    needAllRuns();
    int nearest = current.found.firstWith(variable, value);
    if (nearest == NONE) {
      throw new NoSuchElementException("no such state");
    }
    return current.found.depths[nearest];
  }

  public int components() throws IllegalStateException {
    needAllRuns();
    return runs.countComponents();
  }

  // ---- figures

  public double meanMoves() throws IllegalStateException {
    needSearch();
    return (double) current.countAllMoves() / (double) current.found.count;
  }

  public float newShare() throws IllegalStateException, ArithmeticException {
    needSearch();
    if (current.madeCount == 0) {
      throw new ArithmeticException("no move was made");
    }
    return (float) (current.found.count - 1) / (float) current.madeCount;
  }

  public boolean isSound() {
    return !current.isOn || current.isConsistent();
  }

  // ---- what calls need

  private void needProcess(int process) throws IndexOutOfBoundsException {
    if (process < 0 || process >= program.processCount) {
      throw new IndexOutOfBoundsException("no such process");
    }
  }

  private static void needLocation(int location) throws IllegalArgumentException {
    if (location < 0 || location >= LOCATIONS) {
      throw new IllegalArgumentException("a location is 0 to 11");
    }
  }

  private static void needVariable(int variable) throws IllegalArgumentException {
    if (variable < 0 || variable >= VARIABLES) {
      throw new IllegalArgumentException("a variable is 0 to 8");
    }
  }

  private static void needNumber(int number) throws IllegalArgumentException {
    if (!Program.isNumber(number)) {
      throw new IllegalArgumentException("a number is 0 to 3");
    }
  }

  private void needSearch() throws IllegalStateException {
    if (!current.isOn) {
      throw new IllegalStateException("there is no search");
    }
  }

  private void needState(int state) throws IndexOutOfBoundsException {
    if (state < 0 || state >= current.found.count) {
      throw new IndexOutOfBoundsException("no such state");
    }
  }

  private void needFault() throws IllegalStateException, NoSuchElementException {
    needSearch();
    if (current.faultKind == NO_FAULT) {
      throw new NoSuchElementException("no fault was found");
    }
  }

  private void needPlace(int index) throws IndexOutOfBoundsException {
    if (index < 0 || index >= current.traceCount) {
      throw new IndexOutOfBoundsException("no such place in the trace");
    }
  }

  private void needAllRuns() throws IllegalStateException {
    if (!current.isOn || current.mode != 'a' || current.judge() != 'n') {
      throw new IllegalStateException("no search in the mode 'a' has left nothing out");
    }
  }

  /**
   * What was laid. A step has one index among those of all processes, from which its process and
   * its number in the process come.
   */
  private static final class Program {
    private int processCount;
    private final int[] stepCounts = new int[MOST_PROCESSES];
    private final int[] froms = new int[MOST_PROCESSES * MOST_STEPS];
    private final int[] tos = new int[MOST_PROCESSES * MOST_STEPS];
    private final char[] kinds = new char[MOST_PROCESSES * MOST_STEPS];
    private final int[] firsts = new int[MOST_PROCESSES * MOST_STEPS];
    private final int[] seconds = new int[MOST_PROCESSES * MOST_STEPS];
    private int channelCount;
    private final int[] rooms = new int[MOST_CHANNELS];
    private final int[] starts = new int[VARIABLES];
    private final int[] marks = new int[MOST_PROCESSES * LOCATIONS];
    private int invariantCount;
    private final int[] invariantVariables = new int[MOST_INVARIANTS];
    private final int[] invariantNumbers = new int[MOST_INVARIANTS];

    static int stepAt(int process, int number) {
      return process * MOST_STEPS + number;
    }

    static int processOf(int step) {
      return step / MOST_STEPS;
    }

    static int numberOf(int step) {
      return step % MOST_STEPS;
    }

    static boolean isNumber(int number) {
      return number >= 0 && number < NUMBERS;
    }

    static boolean isOwn(int process, int variable) {
      int first = FIRST_OWN[process];
      return variable >= first && variable < first + OWN;
    }

    private static boolean isUsable(int process, int variable) {
      return variable >= 0 && variable < SHARED || isOwn(process, variable);
    }

    int newProcess() {
      processCount++;
      return processCount - 1;
    }

    boolean fits(int process, char kind, int a, int b) {
      switch (kind) {
        case 'k':
          return true;
        case 's':
        case 'i':
        case '=':
        case '!':
        case 'a':
          return isUsable(process, a) && isNumber(b);
        case 'w':
        case 'r':
          return a >= 0 && a < channelCount && isUsable(process, b);
        default:
          return false;
      }
    }

    int newStep(int process, int from, int to, char kind, int a, int b) {
      int number = stepCounts[process];
      int step = stepAt(process, number);
      froms[step] = from;
      tos[step] = to;
      kinds[step] = kind;
      // The numbers of 'k' do not matter, not even for what is alike.
      firsts[step] = kind == 'k' ? 0 : a;
      seconds[step] = kind == 'k' ? 0 : b;
      stepCounts[process]++;
      return number;
    }

    int newChannel(int room) {
      rooms[channelCount] = room;
      channelCount++;
      return channelCount - 1;
    }

    int newInvariant(int variable, int number) {
      invariantVariables[invariantCount] = variable;
      invariantNumbers[invariantCount] = number;
      invariantCount++;
      return invariantCount;
    }

    boolean putMarks(int process, int location, int mark) {
      int place = process * LOCATIONS + location;
      boolean isOther = marks[place] != mark;
      marks[place] = mark;
      return isOther;
    }

    boolean isMarked(int process, int location, int mark) {
      return (marks[process * LOCATIONS + location] & mark) != 0;
    }

    boolean hasAlike(int process, int other) {
      if (stepCounts[process] != stepCounts[other]) {
        return false;
      }
      for (int number = 0; number < stepCounts[process]; number++) {
        if (!isSameStep(process, other, number)) {
          return false;
        }
      }
      for (int location = 0; location < LOCATIONS; location++) {
        if (marks[process * LOCATIONS + location] != marks[other * LOCATIONS + location]) {
          return false;
        }
      }
      for (int own = 0; own < OWN; own++) {
        if (starts[FIRST_OWN[process] + own] != starts[FIRST_OWN[other] + own]) {
          return false;
        }
      }
      return true;
    }

    private boolean isSameStep(int process, int other, int number) {
      int one = stepAt(process, number);
      int two = stepAt(other, number);
      if (froms[one] != froms[two] || tos[one] != tos[two] || kinds[one] != kinds[two]) {
        return false;
      }
      if (isChannelStep(one)) {
        return firsts[one] == firsts[two] && takenFor(process, other, seconds[one]) == seconds[two];
      }
      return takenFor(process, other, firsts[one]) == firsts[two] && seconds[one] == seconds[two];
    }

    private static int takenFor(int process, int other, int variable) {
      return isOwn(process, variable) ? variable + OWN * (other - process) : variable;
    }

    boolean hasInvariantOfAlike() {
      for (int process = 0; process < processCount; process++) {
        for (int other = 0; other < processCount; other++) {
          if (other != process && isWatched(process) && hasAlike(process, other)) {
            return true;
          }
        }
      }
      return false;
    }

    /** Whether an invariant is about an own variable of the process. */
    private boolean isWatched(int process) {
      for (int index = 0; index < invariantCount; index++) {
        if (isOwn(process, invariantVariables[index])) {
          return true;
        }
      }
      return false;
    }

    private boolean isChannelStep(int step) {
      return kinds[step] == 'w' || kinds[step] == 'r';
    }

    /** Whether the step is a 'w' that is done together with an 'r'. */
    boolean isHandover(int step) {
      return kinds[step] == 'w' && rooms[firsts[step]] == 0;
    }

    /** Whether a step is an 'r' from the channel into which a 'w' sends. */
    boolean takes(int send, int step) {
      return kinds[step] == 'r' && firsts[step] == firsts[send];
    }

    /** Whether nothing outside the process can see or change what it does at the location. */
    boolean isPrivate(int process, int location) {
      if (isWatched(process)) {
        return false;
      }
      for (int number = 0; number < stepCounts[process]; number++) {
        int step = stepAt(process, number);
        if (froms[step] == location && !isPrivateStep(process, step)) {
          return false;
        }
      }
      return true;
    }

    private boolean isPrivateStep(int process, int step) {
      if (kinds[step] == 'k') {
        return true;
      }
      return kinds[step] != 'a' && !isChannelStep(step) && isOwn(process, firsts[step]);
    }

    boolean breaksInvariant(State state) {
      for (int index = 0; index < invariantCount; index++) {
        if (state.values[invariantVariables[index]] == invariantNumbers[index]) {
          return true;
        }
      }
      return false;
    }

    boolean hasProcessAtNoEnd(State state) {
      for (int process = 0; process < processCount; process++) {
        if (!isMarked(process, state.locations[process], END)) {
          return true;
        }
      }
      return false;
    }
  }

  /** One state, unpacked for work; it is filled again and again. */
  private static final class State {
    private final Program program;
    private final int[] locations = new int[MOST_PROCESSES];
    private final int[] values = new int[VARIABLES];
    private final int[] held = new int[MOST_CHANNELS];
    private final int[] earliest = new int[MOST_CHANNELS];
    private final int[] later = new int[MOST_CHANNELS];

    State(Program program) {
      this.program = program;
    }

    void goToStart() {
      Arrays.fill(locations, 0);
      System.arraycopy(program.starts, 0, values, 0, VARIABLES);
      Arrays.fill(held, 0);
      Arrays.fill(earliest, 0);
      Arrays.fill(later, 0);
    }

    void copyFrom(State other) {
      System.arraycopy(other.locations, 0, locations, 0, MOST_PROCESSES);
      System.arraycopy(other.values, 0, values, 0, VARIABLES);
      System.arraycopy(other.held, 0, held, 0, MOST_CHANNELS);
      System.arraycopy(other.earliest, 0, earliest, 0, MOST_CHANNELS);
      System.arraycopy(other.later, 0, later, 0, MOST_CHANNELS);
    }

    /** The code of the state. */
    long pack() {
      long code = 0;
      for (int process = 0; process < MOST_PROCESSES; process++) {
        code = code * (LOCATIONS * NUMBERS * NUMBERS) + shareOf(process);
      }
      for (int variable = 0; variable < SHARED; variable++) {
        code = code * NUMBERS + values[variable];
      }
      for (int channel = 0; channel < MOST_CHANNELS; channel++) {
        code = code * (MOST_ROOM + 1) + held[channel];
        code = code * NUMBERS + earliest[channel];
        code = code * NUMBERS + later[channel];
      }
      return code;
    }

    void unpack(long code) {
      long rest = code;
      for (int channel = MOST_CHANNELS - 1; channel >= 0; channel--) {
        later[channel] = (int) (rest % NUMBERS);
        rest /= NUMBERS;
        earliest[channel] = (int) (rest % NUMBERS);
        rest /= NUMBERS;
        held[channel] = (int) (rest % (MOST_ROOM + 1));
        rest /= MOST_ROOM + 1;
      }
      for (int variable = SHARED - 1; variable >= 0; variable--) {
        values[variable] = (int) (rest % NUMBERS);
        rest /= NUMBERS;
      }
      for (int process = MOST_PROCESSES - 1; process >= 0; process--) {
        int own = FIRST_OWN[process];
        values[own + 1] = (int) (rest % NUMBERS);
        rest /= NUMBERS;
        values[own] = (int) (rest % NUMBERS);
        rest /= NUMBERS;
        locations[process] = (int) (rest % LOCATIONS);
        rest /= LOCATIONS;
      }
    }

    /** What the process adds to the code. */
    private int shareOf(int process) {
      int own = FIRST_OWN[process];
      return (locations[process] * NUMBERS + values[own]) * NUMBERS + values[own + 1];
    }

    /** All variables in one number, two bits each. */
    int packValues() {
      int packed = 0;
      for (int variable = 0; variable < VARIABLES; variable++) {
        packed |= values[variable] << 2 * variable;
      }
      return packed;
    }

    /** Whether the step can be done alone. */
    boolean canDo(int step) {
      int a = program.firsts[step];
      switch (program.kinds[step]) {
        case '=':
          return values[a] == program.seconds[step];
        case '!':
          return values[a] != program.seconds[step];
        case 'w':
          return held[a] < program.rooms[a];
        case 'r':
          return held[a] > 0;
        default:
          return true;
      }
    }

    /** Whether the move asserts what is not so. */
    boolean isRefuted(int move) {
      int step = Moves.leadOf(move);
      return program.kinds[step] == 'a' && values[program.firsts[step]] == program.seconds[step];
    }

    void doMove(int move) {
      int lead = Moves.leadOf(move);
      int partner = Moves.partnerOf(move);
      if (partner == NONE) {
        doAlone(lead);
      } else {
        values[program.seconds[partner]] = values[program.seconds[lead]];
        locations[Program.processOf(partner)] = program.tos[partner];
      }
      locations[Program.processOf(lead)] = program.tos[lead];
    }

    private void doAlone(int step) {
      int a = program.firsts[step];
      int b = program.seconds[step];
      switch (program.kinds[step]) {
        case 's':
          values[a] = b;
          break;
        case 'i':
          values[a] = (values[a] + b) % NUMBERS;
          break;
        case 'w':
          if (held[a] == 0) {
            earliest[a] = values[b];
          } else {
            later[a] = values[b];
          }
          held[a]++;
          break;
        case 'r':
          values[b] = earliest[a];
          earliest[a] = later[a];
          later[a] = 0;
          held[a]--;
          break;
        default:
          break;
      }
    }

    /** Becomes the one with the least code that exchanging alike processes can give. */
    void exchangeToLeast(int[] kin) {
      for (int process = 0; process < MOST_PROCESSES; process++) {
        for (int other = process + 1; other < MOST_PROCESSES; other++) {
          boolean areKin = kin[process * MOST_PROCESSES + other] == 1;
          if (areKin && shareOf(process) > shareOf(other)) {
            exchange(process, other);
          }
        }
      }
    }

    private void exchange(int process, int other) {
      int location = locations[process];
      locations[process] = locations[other];
      locations[other] = location;
      for (int own = 0; own < OWN; own++) {
        int one = FIRST_OWN[process] + own;
        int two = FIRST_OWN[other] + own;
        int number = values[one];
        values[one] = values[two];
        values[two] = number;
      }
    }
  }

  /**
   * The moves of one state, in their order. A move is one number: the step that leads it, times
   * 64, plus the partner's step plus 1, or plus 0 if it is done alone.
   */
  private static final class Moves {
    private final Program program;
    private final int[] places = new int[MOST_MOVES];
    private int count;

    Moves(Program program) {
      this.program = program;
    }

    static int leadOf(int move) {
      return move >> 6;
    }

    static int partnerOf(int move) {
      return (move & 63) - 1;
    }

    static int leaderOf(int move) {
      return Program.processOf(leadOf(move));
    }

    /** The processes that do a step in the move, a bit for each. */
    static int doersOf(int move) {
      int partner = partnerOf(move);
      int led = 1 << leaderOf(move);
      return partner == NONE ? led : led | 1 << Program.processOf(partner);
    }

    void listFor(State state) {
      count = 0;
      for (int process = 0; process < program.processCount; process++) {
        if (program.isMarked(process, state.locations[process], QUIET)) {
          addLedBy(process, state);
          if (count > 0) {
            return;
          }
        }
      }
      for (int process = 0; process < program.processCount; process++) {
        addLedBy(process, state);
      }
    }

    private void addLedBy(int process, State state) {
      for (int number = 0; number < program.stepCounts[process]; number++) {
        int step = Program.stepAt(process, number);
        if (program.froms[step] == state.locations[process]) {
          if (program.isHandover(step)) {
            addHandovers(step, state);
          } else if (state.canDo(step)) {
            add(step, NONE);
          }
        }
      }
    }

    private void addHandovers(int lead, State state) {
      for (int other = 0; other < program.processCount; other++) {
        for (int number = 0; number < program.stepCounts[other]; number++) {
          int step = Program.stepAt(other, number);
          boolean isAtHand =
              other != Program.processOf(lead) && program.froms[step] == state.locations[other];
          if (isAtHand && program.takes(lead, step)) {
            add(lead, step);
          }
        }
      }
    }

    private void add(int lead, int partner) {
      if (count < MOST_MOVES) {
        places[count] = lead << 6 | partner + 1;
        count++;
      }
    }

    boolean has(int move) {
      for (int place = 0; place < count; place++) {
        if (places[place] == move) {
          return true;
        }
      }
      return false;
    }

    boolean hasLedBy(int process) {
      for (int place = 0; place < count; place++) {
        if (leaderOf(places[place]) == process) {
          return true;
        }
      }
      return false;
    }
  }

  /** The states that were found, with the state and the move by which each was. */
  private static final class Found {
    private static final int SLOTS = 4096;
    private static final long SPREAD = 0x9E3779B97F4A7C15L;

    private int count;
    private boolean isByRemainder;
    private final long[] codes = new long[MOST_STATES];
    private final int[] packedValues = new int[MOST_STATES];
    private final int[] parents = new int[MOST_STATES];
    private final int[] ways = new int[MOST_STATES];
    private final int[] depths = new int[MOST_STATES];
    /** The number of all moves of a state, NONE while it was not needed. */
    private final int[] moveCounts = new int[MOST_STATES];
    /** In each slot the number of a state plus 1, or 0. */
    private final int[] slots = new int[SLOTS];

    void clear(boolean isByRemainder) {
      this.isByRemainder = isByRemainder;
      count = 0;
      Arrays.fill(slots, 0);
    }

    /** The number of the state by which one with this code counts as found, or NONE. */
    int numberFor(long code) {
      return slots[slotFor(code)] - 1;
    }

    private int slotFor(long code) {
      if (isByRemainder) {
        return (int) (code % REMAINDERS);
      }
      int slot = (int) (code * SPREAD >>> 52);
      for (int probe = 0; probe < SLOTS; probe++) {
        int number = slots[slot] - 1;
        if (number == NONE || codes[number] == code) {
          return slot;
        }
        slot = (slot + 1) % SLOTS;
      }
      return slot;
    }

    int add(long code, int values, int parent, int way) {
      int number = count;
      slots[slotFor(code)] = number + 1;
      codes[number] = code;
      packedValues[number] = values;
      parents[number] = parent;
      ways[number] = way;
      depths[number] = parent == NONE ? 0 : depths[parent] + 1;
      moveCounts[number] = NONE;
      count++;
      return number;
    }

    int valueIn(int state, int variable) {
      return packedValues[state] >> 2 * variable & 3;
    }

    /** The first state in which the variable is the number, or NONE; no other one is nearer. */
    int firstWith(int variable, int number) {
      for (int state = 0; state < count; state++) {
        if (valueIn(state, variable) == number) {
          return state;
        }
      }
      return NONE;
    }
  }

  /** The search, whether there is one or it was dropped. */
  private static final class Search {
    private final Program program;
    private final Found found;
    private final Graph graph;
    private final Moves moves;
    private final State here;
    private final State next;
    /** In the mode 's' 1 for each two processes that are alike. */
    private final int[] kin = new int[MOST_PROCESSES * MOST_PROCESSES];
    /** The moves of the trace; a search finds 2000 states, so there is one less at most. */
    private final int[] trace = new int[MOST_STATES];
    private int traceCount;
    private boolean isOn;
    private char mode;
    private int goneOnCount;
    private long madeCount;
    private char faultKind;

    Search(Program program, Found found, Graph graph) {
      this.program = program;
      this.found = found;
      this.graph = graph;
      moves = new Moves(program);
      here = new State(program);
      next = new State(program);
    }

    void drop() {
      isOn = false;
    }

    void beginIn(char mode) {
      this.mode = mode;
      isOn = true;
      goneOnCount = 0;
      madeCount = 0;
      faultKind = NO_FAULT;
      traceCount = 0;
      found.clear(mode == 'h');
      graph.clear();
      findKin();
      next.goToStart();
      find(next.pack(), NONE, NONE);
    }

    private void findKin() {
      Arrays.fill(kin, 0);
      for (int process = 0; process < program.processCount; process++) {
        for (int other = 0; other < program.processCount; other++) {
          if (mode == 's' && program.hasAlike(process, other)) {
            kin[process * MOST_PROCESSES + other] = 1;
          }
        }
      }
    }

    char judge() {
      if (faultKind != NO_FAULT) {
        return 'f';
      }
      return mode != 'h' && hasEnded() && found.count < MOST_STATES ? 'n' : '?';
    }

    private boolean hasEnded() {
      return isCutShort() || goneOnCount >= found.count;
    }

    private boolean isCutShort() {
      return faultKind != NO_FAULT || found.count >= MOST_STATES;
    }

    int goOn(int budget) {
      int before = found.count;
      for (int turn = 0; turn < budget && !hasEnded(); turn++) {
        goOnFromOne();
      }
      return found.count - before;
    }

    private void goOnFromOne() {
      int from = goneOnCount;
      goneOnCount++;
      listMoves(from);
      if (moves.count == 0 && program.hasProcessAtNoEnd(here)) {
        endWith('d', from);
        return;
      }
      int alone = mode == 'p' ? processThatGoesAlone() : NONE;
      for (int place = 0; place < moves.count && !isCutShort(); place++) {
        int move = moves.places[place];
        if (alone == NONE || Moves.leaderOf(move) == alone) {
          make(move, from);
        }
      }
      graph.closeState();
    }

    /** Unpacks a state to 'here' and lists all of its moves. */
    private void listMoves(int state) {
      here.unpack(found.codes[state]);
      moves.listFor(here);
      found.moveCounts[state] = moves.count;
    }

    private int processThatGoesAlone() {
      for (int process = 0; process < program.processCount; process++) {
        boolean isPrivate = program.isPrivate(process, here.locations[process]);
        if (isPrivate && moves.hasLedBy(process) && leadsToNewAlone(process)) {
          return process;
        }
      }
      return NONE;
    }

    private boolean leadsToNewAlone(int process) {
      for (int place = 0; place < moves.count; place++) {
        int move = moves.places[place];
        if (Moves.leaderOf(move) == process) {
          goBehind(move);
          if (found.numberFor(next.pack()) != NONE) {
            return false;
          }
        }
      }
      return true;
    }

    private void make(int move, int from) {
      if (here.isRefuted(move)) {
        endWith('a', from);
        trace[traceCount] = move;
        traceCount++;
        return;
      }
      madeCount++;
      goBehind(move);
      long code = next.pack();
      int number = found.numberFor(code);
      if (number == NONE) {
        number = find(code, from, move);
      }
      if (mode == 'a') {
        graph.addEdge(number, Moves.doersOf(move));
      }
    }

    /** Makes 'next' the state that is found, or was, when the move is made from 'here'. */
    private void goBehind(int move) {
      next.copyFrom(here);
      next.doMove(move);
      next.exchangeToLeast(kin);
    }

    /** Finds 'next', whose code is told. */
    private int find(long code, int from, int move) {
      int number = found.add(code, next.packValues(), from, move);
      if (program.breaksInvariant(next)) {
        endWith('i', number);
      }
      return number;
    }

    private void endWith(char kind, int state) {
      faultKind = kind;
      traceCount = found.depths[state];
      int at = state;
      for (int place = traceCount - 1; place >= 0; place--) {
        trace[place] = found.ways[at];
        at = found.parents[at];
      }
    }

    boolean doesReplay() {
      here.goToStart();
      for (int place = 0; place < traceCount; place++) {
        int move = trace[place];
        moves.listFor(here);
        if (!moves.has(move)) {
          return false;
        }
        if (faultKind == 'a' && place == traceCount - 1) {
          return here.isRefuted(move);
        }
        goBehind(move);
        here.copyFrom(next);
      }
      if (faultKind == 'i') {
        return program.breaksInvariant(here);
      }
      moves.listFor(here);
      return faultKind == 'd' && moves.count == 0 && program.hasProcessAtNoEnd(here);
    }

    int countMoves(int state) {
      if (found.moveCounts[state] == NONE) {
        listMoves(state);
      }
      return found.moveCounts[state];
    }

    long countAllMoves() {
      long sum = 0;
      for (int state = 0; state < found.count; state++) {
        sum += countMoves(state);
      }
      return sum;
    }

    /** The code of the very state that a move reaches, not of one that is found in its place. */
    long codeBehind(int state, int place) {
      listMoves(state);
      next.copyFrom(here);
      next.doMove(moves.places[place]);
      return next.pack();
    }

    boolean isConsistent() {
      for (int state = 0; state < found.count; state++) {
        // A second state with the same code would not be the one that its slot tells.
        if (found.numberFor(found.codes[state]) != state) {
          return false;
        }
        if (state > 0 && !wasReached(state)) {
          return false;
        }
      }
      return faultKind == NO_FAULT || doesReplay();
    }

    private boolean wasReached(int state) {
      int parent = found.parents[state];
      if (parent < 0 || parent >= state) {
        return false;
      }
      listMoves(parent);
      if (!moves.has(found.ways[state])) {
        return false;
      }
      goBehind(found.ways[state]);
      return next.pack() == found.codes[state];
    }
  }

  /**
   * The moves between the states of a search in the mode 'a'. An edge is one number: the state to
   * which it leads, times 8, plus a bit for each process that does a step.
   */
  private static final class Graph {
    private static final int FIRST_EDGES = 8192;
    private static final int MOST_EDGES = MOST_STATES * MOST_MOVES;

    private int stateCount;
    /** Where the edges of a state begin; those of the state before end there. */
    private final int[] begins = new int[MOST_STATES + 1];
    private int[] edges = new int[FIRST_EDGES];
    private int edgeCount;
    /** A bit for each process that can do a step in a state. */
    private final int[] doers = new int[MOST_STATES + 1];

    void clear() {
      stateCount = 0;
      edgeCount = 0;
      doers[0] = 0;
    }

    static int targetOf(int edge) {
      return edge >> 3;
    }

    static int doersOf(int edge) {
      return edge & ALL_PROCESSES;
    }

    void addEdge(int target, int doersOfMove) {
      if (edgeCount >= edges.length) {
        edges = Arrays.copyOf(edges, Math.min(2 * edges.length, MOST_EDGES));
      }
      if (edgeCount < edges.length) {
        edges[edgeCount] = target << 3 | doersOfMove;
        edgeCount++;
        doers[stateCount] |= doersOfMove;
      }
    }

    /** The edges added since the last call are all of the next state. */
    void closeState() {
      if (stateCount < MOST_STATES) {
        stateCount++;
        begins[stateCount] = edgeCount;
        doers[stateCount] = 0;
      }
    }

    boolean isWithoutEdges(int state) {
      return begins[state] == begins[state + 1];
    }
  }

  /** The components of the part of a graph that is marked, found by one walk with a stack. */
  private static final class Components {
    private final Graph graph;
    private int count;
    /** Of each state that is marked its component, NONE while it has none. */
    private final int[] parts = new int[MOST_STATES];
    /** The turn at which a state was entered, from 1, and the least one that it leads back to. */
    private final int[] turns = new int[MOST_STATES];
    private final int[] lows = new int[MOST_STATES];
    private int lastTurn;
    private final int[] cursors = new int[MOST_STATES];
    private final int[] path = new int[MOST_STATES];
    private int pathLength;
    private final int[] open = new int[MOST_STATES];
    private int openCount;
    /** Of each component a bit for each process that does not keep it from being fair. */
    private final int[] served = new int[MOST_STATES];
    private final int[] lasting = new int[MOST_STATES];

    Components(Graph graph) {
      this.graph = graph;
    }

    void split(int[] marked) {
      count = 0;
      lastTurn = 0;
      pathLength = 0;
      openCount = 0;
      Arrays.fill(turns, 0);
      Arrays.fill(parts, NONE);
      for (int state = 0; state < graph.stateCount; state++) {
        if (marked[state] == 1 && turns[state] == 0) {
          walkFrom(state, marked);
        }
      }
    }

    private void walkFrom(int root, int[] marked) {
      enter(root);
      // Each edge is looked along once, and each state is left once.
      int bound = graph.edgeCount + graph.stateCount;
      for (int look = 0; look < bound && pathLength > 0; look++) {
        int at = path[pathLength - 1];
        if (cursors[at] < graph.begins[at + 1]) {
          int target = Graph.targetOf(graph.edges[cursors[at]]);
          cursors[at]++;
          if (marked[target] == 1) {
            lookAt(target, at);
          }
        } else {
          leave(at);
        }
      }
    }

    private void enter(int state) {
      lastTurn++;
      turns[state] = lastTurn;
      lows[state] = lastTurn;
      cursors[state] = graph.begins[state];
      path[pathLength] = state;
      pathLength++;
      open[openCount] = state;
      openCount++;
    }

    private void lookAt(int target, int at) {
      if (turns[target] == 0) {
        enter(target);
      } else if (parts[target] == NONE) {
        lows[at] = Math.min(lows[at], turns[target]);
      }
    }

    private void leave(int state) {
      pathLength--;
      if (pathLength > 0) {
        int before = path[pathLength - 1];
        lows[before] = Math.min(lows[before], lows[state]);
      }
      if (lows[state] == turns[state]) {
        close(state);
      }
    }

    private void close(int root) {
      for (int place = openCount - 1; place >= 0; place--) {
        int state = open[place];
        parts[state] = count;
        openCount--;
        if (state == root) {
          break;
        }
      }
      count++;
    }

    /** Whether a run can stay in one of the components for ever. */
    boolean holdsRun(boolean isFair) {
      Arrays.fill(served, 0);
      Arrays.fill(lasting, 0);
      for (int state = 0; state < graph.stateCount; state++) {
        if (parts[state] != NONE) {
          judge(state, parts[state]);
        }
      }
      for (int part = 0; part < count; part++) {
        if (lasting[part] == 1 && (!isFair || served[part] == ALL_PROCESSES)) {
          return true;
        }
      }
      return false;
    }

    private void judge(int state, int part) {
      served[part] |= ALL_PROCESSES & ~graph.doers[state];
      if (graph.isWithoutEdges(state)) {
        lasting[part] = 1;
      }
      for (int place = graph.begins[state]; place < graph.begins[state + 1]; place++) {
        int edge = graph.edges[place];
        if (parts[Graph.targetOf(edge)] == part) {
          lasting[part] = 1;
          served[part] |= Graph.doersOf(edge);
        }
      }
    }
  }

  /** Answers about all runs, from a graph of all states and all moves. */
  private static final class Runs {
    private final Found found;
    private final Graph graph;
    private final Components components;
    /** The states that count for a question have a 1. */
    private final int[] marked = new int[MOST_STATES];
    private final int[] queue = new int[MOST_STATES];
    private int queueLength;

    Runs(Found found, Graph graph) {
      this.found = found;
      this.graph = graph;
      components = new Components(graph);
    }

    int countComponents() {
      Arrays.fill(marked, 1);
      components.split(marked);
      return components.count;
    }

    /** Whether on some run the variable is the number no more from some state on. */
    boolean canLeaveForGood(int variable, int number, boolean isFair) {
      markWithout(variable, number);
      components.split(marked);
      return components.holdsRun(isFair);
    }

    private void markWithout(int variable, int number) {
      for (int state = 0; state < graph.stateCount; state++) {
        marked[state] = found.valueIn(state, variable) == number ? 0 : 1;
      }
    }

    boolean isAllTaken(int variable, int number) {
      markWithout(variable, number);
      for (int pass = 0; pass <= graph.stateCount; pass++) {
        // Both ways in turn, as long chains of moves go up the numbers as well as down.
        int taken = pass % 2 == 0 ? takeDownwards() : takeUpwards();
        if (taken == 0) {
          break;
        }
      }
      for (int state = 0; state < graph.stateCount; state++) {
        if (marked[state] == 1) {
          return false;
        }
      }
      return true;
    }

    private int takeDownwards() {
      int taken = 0;
      for (int state = graph.stateCount - 1; state >= 0; state--) {
        taken += takeIfStuck(state);
      }
      return taken;
    }

    private int takeUpwards() {
      int taken = 0;
      for (int state = 0; state < graph.stateCount; state++) {
        taken += takeIfStuck(state);
      }
      return taken;
    }

    /** Takes a state away if no move leads from it to one that is left; returns how many. */
    private int takeIfStuck(int state) {
      if (marked[state] == 0 || graph.isWithoutEdges(state)) {
        return 0;
      }
      for (int place = graph.begins[state]; place < graph.begins[state + 1]; place++) {
        if (marked[Graph.targetOf(graph.edges[place])] == 1) {
          return 0;
        }
      }
      marked[state] = 0;
      return 1;
    }

    /** Whether on some run the variable is never the number. */
    boolean canMiss(int variable, int number, boolean isFair) {
      clearMarks();
      markIfWithout(0, variable, number);
      spread(variable, number);
      components.split(marked);
      return components.holdsRun(isFair);
    }

    /** Whether on some run a variable is a number, and from there on the other one never its. */
    boolean canMissBehind(
        int variable, int number, int other, int otherNumber, boolean isFair) {
      clearMarks();
      for (int state = 0; state < graph.stateCount; state++) {
        if (found.valueIn(state, variable) == number) {
          markIfWithout(state, other, otherNumber);
        }
      }
      spread(other, otherNumber);
      components.split(marked);
      return components.holdsRun(isFair);
    }

    private void clearMarks() {
      Arrays.fill(marked, 0);
      queueLength = 0;
    }

    private void markIfWithout(int state, int variable, int number) {
      if (marked[state] == 0 && found.valueIn(state, variable) != number) {
        marked[state] = 1;
        queue[queueLength] = state;
        queueLength++;
      }
    }

    /** Marks all that can be reached from marked states without the variable being the number. */
    private void spread(int variable, int number) {
      for (int place = 0; place < MOST_STATES && place < queueLength; place++) {
        int state = queue[place];
        for (int edge = graph.begins[state]; edge < graph.begins[state + 1]; edge++) {
          markIfWithout(Graph.targetOf(graph.edges[edge]), variable, number);
        }
      }
    }
  }
}
