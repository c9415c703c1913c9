import java.io.IOException;
import java.lang.reflect.Constructor;
import java.lang.reflect.Field;
import java.lang.reflect.Method;
import java.lang.reflect.Modifier;
import java.nio.file.Files;
import java.nio.file.Path;
import java.util.Set;
import java.util.TreeSet;
import java.util.regex.Pattern;

/** The public face of the document, and rules of LANGUAGE.md that can be read off the program. */
public final class FaceTest {
  private static final String[] FACE = {
    "int addProcess() IllegalStateException",
    "int addStep(int,int,int,char,int,int)"
        + " IllegalArgumentException IllegalStateException IndexOutOfBoundsException",
    "int addChannel(int) IllegalArgumentException IllegalStateException",
    "int setStart(int,int) IllegalArgumentException",
    "boolean setMarks(int,int,boolean,boolean) IllegalArgumentException IndexOutOfBoundsException",
    "int addInvariant(int,int) IllegalArgumentException IllegalStateException",
    "boolean areAlike(int,int) IndexOutOfBoundsException",
    "char begin(char) IllegalArgumentException UnsupportedOperationException",
    "int search(int) IllegalArgumentException IllegalStateException",
    "char verdict() IllegalStateException",
    "int states() IllegalStateException",
    "int goneOn() IllegalStateException",
    "long codeOf(int) IllegalStateException IndexOutOfBoundsException",
    "int moves(int) IllegalStateException IndexOutOfBoundsException",
    "long reached(int,int)"
        + " IllegalStateException IndexOutOfBoundsException NoSuchElementException",
    "int variableIn(int,int)"
        + " IllegalArgumentException IllegalStateException IndexOutOfBoundsException",
    "long made() IllegalStateException",
    "char fault() IllegalStateException NoSuchElementException",
    "int traceLength() IllegalStateException NoSuchElementException",
    "int traceProcess(int)"
        + " IllegalStateException IndexOutOfBoundsException NoSuchElementException",
    "int traceStep(int)"
        + " IllegalStateException IndexOutOfBoundsException NoSuchElementException",
    "boolean replays() IllegalStateException NoSuchElementException",
    "boolean recurs(int,int,boolean) IllegalArgumentException IllegalStateException",
    "boolean recursByTaking(int,int) IllegalArgumentException IllegalStateException",
    "boolean comes(int,int,boolean) IllegalArgumentException IllegalStateException",
    "boolean follows(int,int,int,int,boolean) IllegalArgumentException IllegalStateException",
    "int distance(int,int)"
        + " IllegalArgumentException IllegalStateException NoSuchElementException",
    "int components() IllegalStateException",
    "double meanMoves() IllegalStateException",
    "float newShare() ArithmeticException IllegalStateException",
    "boolean isSound()"};

  private FaceTest() {}

  public static void main(String[] args) throws IOException {
    face();
    classesInside();
    words(Files.readString(Path.of("src/main/java/Statewarden.java")));
    Check.end();
  }

  private static void face() {
    Class<?> face = Statewarden.class;
    Check.same("public and final", face.getModifiers(), Modifier.PUBLIC | Modifier.FINAL);
    Set<String> methods = new TreeSet<>();
    for (Method method : face.getDeclaredMethods()) {
      if (!Modifier.isPrivate(method.getModifiers())) {
        methods.add(signature(method));
      }
    }
    Check.same("methods", methods, new TreeSet<>(Set.of(FACE)));
    for (Constructor<?> constructor : face.getDeclaredConstructors()) {
      Check.same("constructor", constructor.getModifiers(), Modifier.PUBLIC);
      Check.same("without parameters", constructor.getParameterCount(), 0);
    }
    for (Field field : face.getDeclaredFields()) {
      Check.same("private " + field, Modifier.isPrivate(field.getModifiers()), true);
    }
  }

  private static String signature(Method method) {
    StringBuilder text = new StringBuilder();
    text.append(method.getReturnType().getName()).append(' ').append(method.getName()).append('(');
    for (Class<?> parameter : method.getParameterTypes()) {
      text.append(text.charAt(text.length() - 1) == '(' ? "" : ",").append(parameter.getName());
    }
    text.append(')');
    Set<String> exceptions = new TreeSet<>();
    for (Class<?> exception : method.getExceptionTypes()) {
      exceptions.add(exception.getSimpleName());
    }
    for (String exception : exceptions) {
      text.append(' ').append(exception);
    }
    return text.toString();
  }

  private static void classesInside() {
    Set<String> names = new TreeSet<>();
    for (Method method : Statewarden.class.getMethods()) {
      names.add(method.getName());
    }
    Class<?>[] inside = Statewarden.class.getDeclaredClasses();
    Check.same("some twelve classes", inside.length <= 12, true);
    for (Class<?> one : inside) {
      Check.same("static " + one, Modifier.isStatic(one.getModifiers()), true);
      int fields = 0;
      for (Field field : one.getDeclaredFields()) {
        boolean isStatic = Modifier.isStatic(field.getModifiers());
        fields += isStatic ? 0 : 1;
        Check.same("constant " + field, isStatic && !Modifier.isFinal(field.getModifiers()), false);
      }
      Check.same("some twenty fields in " + one, fields <= 20, true);
      for (Method method : one.getDeclaredMethods()) {
        Check.same("a name of its own: " + method, names.contains(method.getName()), false);
        Check.same("seven parameters: " + method, method.getParameterCount() <= 7, true);
      }
    }
  }

  private static void words(String program) {
    String[] refused = {"->", "::", "\\bfinally\\b", "\\bassert\\b", "\\bsynchronized\\b",
      "\\bpackage\\b", "\\bRandom\\b", "\\bSystem\\.(?!arraycopy)", "\\bThread\\b", "Exact\\(",
      "\\bstatic \\{", "\\bObject\\b", "\\bgetMessage\\b", "\\bhashCode\\b"};
    Set<String> library =
        Set.of("ArrayList", "Arrays", "Iterator", "List", "NoSuchElementException");
    String code = program.replaceAll("(?s)/\\*.*?\\*/", "").replaceAll("//[^\n]*", "");
    for (String word : refused) {
      Check.same("no " + word, Pattern.compile(word).matcher(code).find(), false);
    }
    for (String line : program.split("\n")) {
      Check.same("signs 1 to 127: " + line, line.chars().allMatch(sign -> sign < 128), true);
      if (line.startsWith("import ")) {
        String name = line.replace("import java.util.", "").replace(";", "");
        Check.same("an import of what the rules list: " + line, library.contains(name), true);
      }
    }
  }
}
