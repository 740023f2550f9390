import java.io.IOException;
import java.nio.file.Files;
import java.nio.file.Path;

/**
 * The document's own words: each test of an edge names the sentence it holds, and at the end none of the terms and
 * promises is left unnamed. So a sentence without a test is seen, and a test of what the document never said.
 */
final class Sentences {
  private static final Path PLACE = Path.of("../shared/DOC.md");
  private static final String WORDS = words();
  private static final boolean[] NAMED = new boolean[WORDS.length()];

  private Sentences() { }

  private static String words() {
    if (!Files.exists(PLACE)) return "";
    try {
      String all = Files.readString(PLACE).replaceAll("\\s+", " ");
      String told = all.substring(all.indexOf("## Terms ") + 9, all.indexOf("## Not promised"));
      return told.replaceAll("```(text)?", " ").replaceAll("## Promise \\d+: [A-Za-z ]+ `[^`]*`:", " ").replaceAll("\\s+", " ");
    } catch (IOException e) {
      return "";
    }
  }

  /** The sentence, or part of one, that is held by the tests that follow. */
  static void hold(String sentence) {
    Due.under(sentence);
    if (WORDS.isEmpty()) return;
    int at = WORDS.indexOf(sentence);
    Due.is("this stands in the document", at >= 0 ? 1 : 0, 1);
    for (; at >= 0; at = WORDS.indexOf(sentence, at + 1)) {
      for (int k = 0; k < sentence.length(); k++) NAMED[at + k] = true;
    }
  }

  static void end() {
    Due.under("");
    if (WORDS.isEmpty()) System.out.println("no " + PLACE + " here: whether every sentence has a test was not looked at");
    StringBuilder left = new StringBuilder();
    for (int k = 0; k < WORDS.length(); k++) {
      if (!NAMED[k]) left.append(WORDS.charAt(k));
      else if (left.length() > 0 && left.charAt(left.length() - 1) != '|') left.append('|');
    }
    for (String part : left.toString().split("\\|")) {
      Due.is("a test for '" + part.trim() + "'", part.matches(".*[A-Za-z].*|.*\\d.*") && !part.matches("[ =]*[123]?\\.[ =]*") ? 0 : 1, 1);
    }
  }
}
