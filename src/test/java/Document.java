import java.io.IOException;
import java.nio.file.Files;
import java.nio.file.Path;
import java.util.Arrays;
import java.util.LinkedHashMap;
import java.util.Map;

/** The document's text by its headings, and which of its words no test quotes. */
final class Document {
  private final Map<String, String> text = new LinkedHashMap<>();
  private final Map<String, boolean[]> quoted = new LinkedHashMap<>();

  Document(Path file) throws IOException {
    String heading = "";
    for (String line : Files.readAllLines(file)) {
      if (line.startsWith("#")) {
        heading = line.replaceAll("^#+ *", "");
        text.put(heading, "");
      } else if (!line.startsWith("```") && text.containsKey(heading)) {
        text.merge(heading, line.trim() + " ", String::concat);
      }
    }
    // a call's head is the face's, and FaceTest sees to that
    text.replaceAll((title, words) -> words.trim().replaceAll("^`[^`]*`: ", "").replaceAll(" +", " "));
    text.forEach((title, words) -> quoted.put(title, new boolean[words.length()]));
  }

  Iterable<String> headings() {
    return text.keySet();
  }

  /** Whether a section says these words; they are marked wherever they stand in it. */
  boolean says(String heading, String words) {
    String all = text.getOrDefault(heading, "");
    boolean found = false;
    for (int at = all.indexOf(words); at >= 0; at = all.indexOf(words, at + 1)) {
      Arrays.fill(quoted.get(heading), at, at + words.length(), true);
      found = true;
    }
    return found;
  }

  /** What of a section was not marked, without signs between sentences; empty if all was. */
  String unquoted(String heading) {
    StringBuilder left = new StringBuilder();
    boolean[] marks = quoted.get(heading);
    for (int i = 0; i < marks.length; i++) left.append(marks[i] ? '\n' : text.get(heading).charAt(i));
    return left.toString().replaceAll("\n+", " | ").replaceAll("^[ |]+|[ |]+$", "");
  }
}
