import java.lang.reflect.InvocationTargetException;
import java.lang.reflect.Method;
import java.util.ArrayList;
import java.util.HashMap;
import java.util.List;
import java.util.Map;
import java.util.Random;
import java.util.TreeMap;

/** Promises 1 to 32: runs of calls with fixed seeds, answered by the program and the model. */
public final class AgainstModelTest {
  private static final int RUNS = 4000;
  /** What a later call of an object answers is free. */
  private static final int MOST_CALLS = 512;
  private static final Map<String, Method> PROGRAM = methods(Statewarden.class);
  private static final Map<String, Method> MODEL = methods(Model.class);

  private final Random random;
  private final Statewarden program = new Statewarden();
  private final Model model = new Model();
  private final List<String> calls = new ArrayList<>();
  private static final Map<String, Integer> verdicts = new TreeMap<>();
  private int processes;
  private int channels;
  private int made;

  /** All the calls that an object has were made. */
  private static final class RunIsOver extends RuntimeException {
    private static final long serialVersionUID = 1L;
  }

  private AgainstModelTest(long seed) {
    random = new Random(seed);
  }

  public static void main(String[] args) {
    for (int run = 0; run < RUNS; run++) {
      try {
        new AgainstModelTest(run).run(run);
      } catch (RunIsOver over) {
        count("runs with all calls");
      }
    }
    System.out.println("verdicts and answers seen: " + verdicts);
    for (String kind : List.of("an", "pn", "sn", "ai", "aa", "ad", "pi", "pa", "pd", "sd", "hd",
        "a?", "h?", "recurs true", "recurs false", "comes true", "comes false", "follows true",
        "follows false", "recursByTaking true", "recursByTaking false", "fair matters",
        "runs with all calls")) {
      Check.same("runs drawn show " + kind, verdicts.getOrDefault(kind, 0) > 0, true);
    }
    Check.end();
  }

  private static Map<String, Method> methods(Class<?> of) {
    Map<String, Method> methods = new HashMap<>();
    for (Method method : of.getDeclaredMethods()) {
      if (java.lang.reflect.Modifier.isPublic(method.getModifiers())) {
        methods.put(method.getName(), method);
      }
    }
    return methods;
  }

  private void run(int number) {
    int shape = number % 8;
    lay(shape);
    while (true) {
      ask("begin", "aaapsh".charAt(random.nextInt(6)));
      for (int turn = random.nextInt(4); turn >= 0; turn--) {
        ask("search", random.nextInt(3) == 0 ? 500 : 1 + random.nextInt(40));
        look(3);
      }
      if (random.nextInt(3) != 0) {
        for (int turn = 0; turn < 5; turn++) {
          ask("search", 500);
        }
      }
      look(12);
      look(random.nextInt(20));
      runQuestions();
      change(shape);
      if (random.nextInt(3) == 0) {
        break;
      }
    }
  }

  private void lay(int shape) {
    for (int count = 1 + random.nextInt(3); count > 0; count--) {
      ask("addProcess");
      processes++;
    }
    for (int count = random.nextInt(3); count > 0; count--) {
      ask("addChannel", random.nextInt(3));
      channels++;
    }
    int places = shape == 7 ? 12 : shape == 3 ? 2 + random.nextInt(2) : 1 + random.nextInt(4);
    boolean areCopies = random.nextInt(3) == 0;
    int steps = shape == 7 ? 14 : shape == 3 ? 3 : 1 + random.nextInt(6);
    List<Object[]> laid = new ArrayList<>();
    for (int process = 0; process < processes; process++) {
      for (int number = 0; number < steps; number++) {
        boolean isRing = (shape == 3 || shape == 4) && number < places;
        boolean isCopy = areCopies && process > 0 && random.nextInt(40) != 0;
        Object[] step = isCopy ? shifted(laid.get(number), process) : step(process, places, shape);
        if (isRing) {
          step[1] = number;
          step[2] = (number + 1) % places;
        }
        if (process == 0) {
          laid.add(step);
        }
        ask("addStep", step);
      }
    }
    marks(places);
    for (int variable = 0; variable < 9; variable++) {
      if (random.nextInt(8) == 0) {
        ask("setStart", variable, random.nextInt(4));
      }
    }
    if (random.nextInt(4) == 0) {
      ask("addInvariant", random.nextInt(9), random.nextInt(4));
    }
  }

  private void marks(int places) {
    boolean areEnds = random.nextInt(4) != 0;
    for (int location = 0; location < places; location++) {
      boolean isQuiet = random.nextInt(6) == 0;
      for (int process = 0; process < processes; process++) {
        if (areEnds || isQuiet) {
          ask("setMarks", process, location, areEnds, isQuiet);
        }
      }
    }
  }

  private Object[] step(int process, int places, int shape) {
    String kinds = channels > 0 ? "ksi=!wrwr" : "ksi=!";
    if (shape == 3 || shape == 4) {
      kinds = shape == 4 ? "ksssi=!" : channels > 0 ? "sssssiiwr" : "ssi";
    }
    char kind = random.nextInt(60) == 0 ? 'a' : kinds.charAt(random.nextInt(kinds.length()));
    if (shape == 6 && random.nextInt(2) == 0) {
      kind = 'i';
    }
    boolean isSending = kind == 'w' || kind == 'r';
    boolean isOwn = random.nextInt(shape == 5 ? 8 : 2) != 0;
    int variable = isOwn ? 3 + 2 * process + random.nextInt(2) : random.nextInt(3);
    int number = random.nextInt(4);
    int channel = channels > 0 ? random.nextInt(channels) : 0;
    return new Object[] {process, random.nextInt(places), random.nextInt(places), kind,
      isSending ? channel : variable, isSending ? variable : number};
  }

  private Object[] shifted(Object[] step, int process) {
    Object[] copy = step.clone();
    char kind = (char) step[3];
    int place = kind == 'w' || kind == 'r' ? 5 : 4;
    copy[0] = process;
    if ((int) step[place] >= 3) {
      copy[place] = (int) step[place] + 2 * process;
    }
    if (kind == 'k') {
      copy[5] = random.nextInt();
    }
    return copy;
  }

  /** A call of the first part, sometimes a wrong one; also calls that add nothing new. */
  private void change(int shape) {
    int variable = random.nextInt(11) - 1;
    int value = random.nextInt(6) - 1;
    switch (random.nextInt(9)) {
      case 0:
        ask("setStart", variable, value);
        break;
      case 1:
        ask("addInvariant", variable, value);
        break;
      case 2:
        ask("setMarks", random.nextInt(5) - 1, random.nextInt(14) - 1, random.nextBoolean(),
            random.nextBoolean());
        break;
      case 3:
        ask("addStep", random.nextInt(5) - 1, random.nextInt(14) - 1, random.nextInt(14) - 1,
            "ksi=!wrax".charAt(random.nextInt(9)), variable, random.nextInt(11) - 1);
        break;
      case 4:
        ask("addChannel", random.nextInt(5) - 1);
        break;
      case 5:
        ask("addProcess");
        break;
      case 6:
        ask("begin", "apshx".charAt(random.nextInt(5)));
        break;
      case 7:
        ask("search", random.nextInt(4) * 250 - 249);
        break;
      default:
        ask("areAlike", random.nextInt(5) - 1, random.nextInt(5) - 1);
        break;
    }
  }

  private void look(int count) {
    String verdict = ask("verdict");
    ask("states");
    ask("goneOn");
    ask("made");
    for (int turn = 0; turn < count; turn++) {
      int states = verdict.length() == 1 ? statesFound() : 1;
      int state = random.nextInt(10) == 0 ? random.nextInt(states + 4) - 2 : random.nextInt(states);
      switch (random.nextInt(9)) {
        case 0:
          ask("codeOf", state);
          break;
        case 1:
          ask("moves", state);
          break;
        case 2:
        case 3:
          ask("reached", state, random.nextInt(6) - 1);
          break;
        case 4:
          ask("variableIn", state, random.nextInt(11) - 1);
          break;
        case 5:
          ask("meanMoves");
          break;
        case 6:
          ask("newShare");
          break;
        default:
          ask("isSound");
          break;
      }
    }
    note(verdict);
    lookAtFault();
  }

  private void note(String verdict) {
    String mode = "";
    for (String call : calls) {
      mode = call.startsWith("begin[") && !call.contains("throws") ? call.substring(6, 7) : mode;
    }
    count(mode + verdict);
    String fault = ask("fault");
    if (fault.length() == 1) {
      count(mode + fault);
    }
  }

  private static void count(String kind) {
    verdicts.merge(kind, 1, Integer::sum);
  }

  private void lookAtFault() {
    String length = ask("traceLength");
    int most = length.startsWith("throws") ? 1 : Integer.parseInt(length);
    for (int turn = 0; turn < 3; turn++) {
      ask("traceProcess", random.nextInt(most + 2) - 1);
      ask("traceStep", random.nextInt(most + 2) - 1);
    }
    ask("replays");
  }

  private void runQuestions() {
    String verdict = ask("verdict");
    boolean isLarge = verdict.equals("n") && statesFound() > 400;
    ask("components");
    for (int turn = isLarge ? 1 : 10; turn > 0; turn--) {
      int variable = random.nextInt(11) - 1;
      int value = random.nextInt(12) == 0 ? random.nextInt(6) - 1 : random.nextInt(4);
      int other = random.nextInt(10) == 0 ? random.nextInt(11) - 1 : random.nextInt(9);
      if (verdict.length() == 1 && random.nextInt(4) != 0) {
        variable = random.nextInt(3 + 2 * processes);
        value = Integer.parseInt(ask("variableIn", random.nextInt(statesFound()), variable));
      }
      answer("recursByTaking", 1 + random.nextInt(8), random.nextInt(4));
      String fair = answer("recurs", variable, value, true);
      String any = answer("recurs", variable, value, false);
      if (!fair.equals(any)) {
        count("fair matters");
      }
      answer("recursByTaking", variable, value);
      answer("comes", variable, value, random.nextBoolean());
      answer("follows", variable, value, other, random.nextInt(4), random.nextBoolean());
      ask("distance", variable, value);
    }
  }

  private String answer(String name, Object... arguments) {
    String answer = ask(name, arguments);
    count(name + " " + answer);
    return answer;
  }

  private int statesFound() {
    return Integer.parseInt(ask("states"));
  }

  private String ask(String name, Object... arguments) {
    if (made == MOST_CALLS) {
      throw new RunIsOver();
    }
    made++;
    String got = call(PROGRAM, program, name, arguments);
    String due = call(MODEL, model, name, arguments);
    calls.add(name + List.of(arguments) + (got.startsWith("throws") ? " throws" : ""));
    if (!got.equals(due)) {
      System.out.println("after " + calls);
    }
    Check.same(calls.get(calls.size() - 1), got, due);
    return got;
  }

  private static String call(
      Map<String, Method> methods, Object object, String name, Object... arguments) {
    try {
      return String.valueOf(methods.get(name).invoke(object, arguments));
    } catch (InvocationTargetException e) {
      return "throws " + e.getCause().getClass().getName();
    } catch (IllegalAccessException e) {
      throw new IllegalStateException(e);
    }
  }
}
