import java.io.IOException;
import java.nio.file.Files;
import java.nio.file.Path;
import java.util.ArrayList;
import java.util.List;

/**
 * Tests by the words of the document: each test is of one sentence, or of one part of it, and
 * bears its words; no sentence of a section that is named is left without a test.
 */
final class Sentences {
  private static final Path DOCUMENT = Path.of("../shared/DOC.md");
  private static final List<String> tested = new ArrayList<>();
  private static String heading = "";
  private static String section = "";

  interface Test {
    void make();
  }

  private Sentences() {}

  /** The tests that follow are of this section of the document. */
  static void of(String name) {
    heading = name;
    section = read(name);
    tested.clear();
  }

  /** The tests that follow are of the paragraph of the section 'Terms' that begins with a word. */
  static void ofTerm(String word) {
    of("Terms");
    heading = word;
    String paragraphs = section;
    section = "";
    for (String line : paragraphs.split("\n")) {
      if (line.startsWith(word + ". ")) {
        section = line.substring(word.length() + 2);
      }
    }
    if (!paragraphs.isEmpty() && section.isEmpty()) {
      Check.tell("the terms do not tell of " + word);
    }
  }

  static void test(String words, Test test) {
    Check.about(heading + " | " + words + " | ");
    int asked = Check.asked();
    if (!section.isEmpty() && !section.contains(words)) {
      Check.tell("the document does not say this");
    }
    try {
      test.make();
    } catch (RuntimeException e) {
      Check.tell("the test ended with " + e);
    }
    if (Check.asked() == asked) {
      Check.tell("nothing was asked");
    }
    tested.add(words);
    Check.about("");
  }

  /** Each sentence of the section has a test: of all of it, or of parts of it. */
  static void allTested() {
    for (String sentence : section.split("(?<=\\.) |\n")) {
      boolean isTested = sentence.isBlank();
      for (String words : tested) {
        isTested |= sentence.contains(words) || words.contains(sentence);
      }
      Check.same(heading + " | tested: " + sentence, isTested, true);
    }
  }

  /** The text of a section, a line for each of its paragraphs; empty if there is no document. */
  private static String read(String name) {
    if (!Files.exists(DOCUMENT)) {
      System.out.println(DOCUMENT + " is not at hand: the words of tests are not compared");
      return "";
    }
    String text;
    try {
      text = Files.readString(DOCUMENT);
    } catch (IOException e) {
      throw new IllegalStateException(e);
    }
    StringBuilder lines = new StringBuilder();
    for (String part : text.split("\n## ")) {
      if (part.startsWith(name + "\n")) {
        addParagraphs(part.substring(name.length()), lines);
      }
    }
    if (lines.length() == 0) {
      Check.tell("the document has no section " + name);
    }
    return lines.toString();
  }

  private static void addParagraphs(String part, StringBuilder lines) {
    for (String paragraph : part.split("\n\n|\n(?=- )")) {
      // What stands ahead of the first ': ' of a promise is its signature, which FaceTest reads.
      String text = paragraph.replaceFirst("(?s)^\\s*`[^`]*\\(.*?`: ", "").replaceAll("\\s+", " ");
      if (!text.startsWith("Ahead of the calls")) {
        lines.append(text.strip()).append('\n');
      }
    }
  }
}
