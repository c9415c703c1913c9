import java.io.IOException;
import java.lang.reflect.Method;
import java.lang.reflect.Modifier;
import java.nio.file.Files;
import java.nio.file.Path;
import java.util.ArrayList;
import java.util.List;

/** What README.md shows: each row of its examples is made here, in turn, with its answer. */
public final class ReadmeTest {
  /** The rows of all examples. */
  private static final List<String> rows = new ArrayList<>();
  private static int place = 0;

  private ReadmeTest() {}

  public static void main(String[] args) throws IOException {
    String page = Files.readString(Path.of("README.md"));
    readRows(page);
    handover();
    fault();
    runs();
    Check.same("rows that were not made", rows.subList(place, rows.size()), List.of());
    names(page);
    Check.end();
  }

  private static void readRows(String page) {
    String[] parts = page.split("```java\n|```\n");
    for (int part = 1; part < parts.length; part += 2) {
      for (String row : parts[part].split("\n")) {
        if (!row.isBlank()) {
          rows.add(row);
        }
      }
    }
  }

  /** The next row of the page makes this call, and shows this answer at the head of its comment. */
  private static void shown(String call, Object answer) {
    String row = place < rows.size() ? rows.get(place) : "";
    place++;
    String due = answer instanceof Character ? "'" + answer + "'" : String.valueOf(answer);
    String pattern = "\\Q" + call + "\\E +// \\Q" + due + "\\E([:, ].*)?";
    Check.same(call + " as the row " + row + " with " + due, row.matches(pattern), true);
  }

  private static void made(String call) {
    String row = place < rows.size() ? rows.get(place) : "";
    place++;
    Check.same("the row", row, call);
  }

  private static void handover() {
    made("Statewarden x = new Statewarden();");
    Statewarden x = new Statewarden();
    int p = x.addProcess();
    shown("int p = x.addProcess();", p);
    int q = x.addProcess();
    shown("int q = x.addProcess();", q);
    int c = x.addChannel(0);
    shown("int c = x.addChannel(0);", c);
    shown("x.addStep(p, 0, 1, 'w', c, 3);", x.addStep(p, 0, 1, 'w', c, 3));
    shown("x.addStep(q, 0, 1, 'r', c, 5);", x.addStep(q, 0, 1, 'r', c, 5));
    shown("x.setStart(3, 2);", x.setStart(3, 2));
    shown("x.setMarks(p, 1, true, false);", x.setMarks(p, 1, true, false));
    shown("x.setMarks(q, 1, true, false);", x.setMarks(q, 1, true, false));
    shown("x.begin('a');", x.begin('a'));
    shown("x.search(500);", x.search(500));
    shown("x.verdict();", x.verdict());
    shown("x.states();", x.states());
    shown("x.variableIn(1, 5);", x.variableIn(1, 5));
    shown("x.comes(5, 2, false);", x.comes(5, 2, false));
  }

  private static void fault() {
    made("Statewarden y = new Statewarden();");
    Statewarden y = new Statewarden();
    int r = y.addProcess();
    shown("int r = y.addProcess();", r);
    shown("y.addStep(r, 0, 1, 'i', 0, 1);", y.addStep(r, 0, 1, 'i', 0, 1));
    shown("y.addStep(r, 1, 0, 'i', 0, 2);", y.addStep(r, 1, 0, 'i', 0, 2));
    shown("y.addInvariant(0, 3);", y.addInvariant(0, 3));
    shown("y.begin('a');", y.begin('a'));
    shown("y.search(500);", y.search(500));
    shown("y.verdict();", y.verdict());
    shown("y.fault();", y.fault());
    shown("y.traceLength();", y.traceLength());
    shown("y.traceProcess(1);", y.traceProcess(1));
    shown("y.traceStep(1);", y.traceStep(1));
    shown("y.replays();", y.replays());
  }

  private static void runs() {
    made("Statewarden z = new Statewarden();");
    Statewarden z = new Statewarden();
    int s = z.addProcess();
    shown("int s = z.addProcess();", s);
    int t = z.addProcess();
    shown("int t = z.addProcess();", t);
    shown("z.addStep(s, 0, 0, 'k', 0, 0);", z.addStep(s, 0, 0, 'k', 0, 0));
    shown("z.addStep(t, 0, 1, 's', 5, 1);", z.addStep(t, 0, 1, 's', 5, 1));
    shown("z.begin('a');", z.begin('a'));
    shown("z.search(500);", z.search(500));
    shown("z.comes(5, 1, false);", z.comes(5, 1, false));
    shown("z.comes(5, 1, true);", z.comes(5, 1, true));
    shown("z.recurs(5, 1, true);", z.recurs(5, 1, true));
    shown("z.recursByTaking(5, 1);", z.recursByTaking(5, 1));
    shown("z.follows(5, 1, 5, 0, true);", z.follows(5, 1, 5, 0, true));
    shown("z.distance(5, 1);", z.distance(5, 1));
    shown("z.components();", z.components());
  }

  private static void names(String page) {
    for (Method method : Statewarden.class.getDeclaredMethods()) {
      if (Modifier.isPublic(method.getModifiers())) {
        String name = method.getName();
        Check.same("the page names " + name, page.contains("`" + name + "`"), true);
      }
    }
    for (String test : new java.io.File("src/test/java").list()) {
      if (test.endsWith("Test.java")) {
        String name = test.substring(0, test.length() - ".java".length());
        Check.same("the page names " + name, page.contains("`" + name + "`"), true);
      }
    }
  }
}
