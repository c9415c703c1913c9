/** Counts answers that are not as due, and ends a test with exit code 1 if there was one. */
final class Check {
  private static int asked = 0;
  private static int wrong = 0;
  /** What the answers are about, ahead of each line that is printed. */
  private static String about = "";

  interface Call {
    Object make();
  }

  private Check() {}

  static void about(String what) {
    about = what;
  }

  static int asked() {
    return asked;
  }

  static int wrong() {
    return wrong;
  }

  static void same(String what, Object got, Object due) {
    asked++;
    if (!due.equals(got)) {
      tell(what + " answered " + got + ", due is " + due);
    }
  }

  static void tell(String line) {
    wrong++;
    System.out.println(about + line);
  }

  /** The call throws an exception of exactly this class. */
  static void fails(String what, Class<? extends RuntimeException> due, Call call) {
    asked++;
    String got;
    try {
      got = "answered " + call.make();
    } catch (RuntimeException e) {
      got = e.getClass() == due ? "" : "threw " + e.getClass().getName();
    }
    if (!got.isEmpty()) {
      tell(what + " " + got + ", due is " + due.getName());
    }
  }

  /** The number of the document for three times location and own variables, and so on. */
  static long code(int[] processes, int[] shared, int[] channels) {
    long code = 0;
    for (int process = 0; process < 3; process++) {
      code = code * 12 + processes[3 * process];
      code = code * 4 + processes[3 * process + 1];
      code = code * 4 + processes[3 * process + 2];
    }
    for (int variable = 0; variable < 3; variable++) {
      code = code * 4 + shared[variable];
    }
    for (int channel = 0; channel < 2; channel++) {
      code = code * 3 + channels[3 * channel];
      code = code * 4 + channels[3 * channel + 1];
      code = code * 4 + channels[3 * channel + 2];
    }
    return code;
  }

  static int[] row(int... numbers) {
    return numbers;
  }

  static void end() {
    System.out.println(asked + " answers asked, " + wrong + " not as due");
    if (wrong != 0 || asked == 0) {
      System.exit(1);
    }
  }
}
