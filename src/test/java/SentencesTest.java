import java.io.IOException;
import java.nio.file.Files;
import java.nio.file.Path;

/**
 * Each sentence of "Terms" and of the promises has a test of its own, which quotes it: the last value that is taken
 * and the first that is refused, the empty and the full, where numbers run over, and each refusal in its order.
 */
public final class SentencesTest {
  /** What says no more than which calls stand together: no answer shows that, but FaceTest reads it off the program. */
  private static final String[] NO_BOUNDARY = {
    "Ahead of the calls `make`, `cross`, `add`, `drop`, `clash`, `empty`, `holds`, `count`, `has`, `set`, `is`"
      + " the interface says: ---- families.",
    "Ahead of the calls `sum`, `rank`, `ranked`, `cascade`, `least`, `chain`, `ring`, `weight`, `matters`, `product`"
      + " the interface says: ---- numbers.",
    "Ahead of the calls `flower`, `petal`, `cover`, `loose`, `shattered`, `greatest`, `same`, `turns`"
      + " the interface says: ---- looked for.",
    "Ahead of the calls `row`, `put`, `element`, `copy`, `take`, `heft`, `toss` the interface says: ---- rows.",
  };

  /** Each quote stands in the document, and of "Terms" and the promises no words are left without a test. */
  private static void compareWith(Path file) throws IOException {
    Document document = new Document(file);
    for (String words : NO_BOUNDARY) document.says("Terms", words);
    for (Sentences.Quote quote : Sentences.quotes()) {
      if (!document.says(quote.section(), quote.words())) {
        Sentences.fail(quote.section() + " does not say: " + quote.words());
      }
    }
    for (String heading : document.headings()) {
      if (!heading.equals("Terms") && !heading.startsWith("Promise ")) continue;
      String left = document.unquoted(heading);
      if (!left.isEmpty()) Sentences.fail("no test of " + heading + " quotes: " + left);
    }
  }

  public static void main(String[] args) throws IOException {
    TermsSentences.run();
    WordsSentences.run();
    FamilySentences.run();
    MadeSentences.run();
    NumberSentences.run();
    SoughtSentences.run();
    RowSentences.run();
    Sentences.section("the document");
    Path file = Path.of("../shared/DOC.md");
    if (Files.exists(file)) compareWith(file);
    int sentences = Sentences.quotes().size();
    System.out.println(sentences + " sentences, " + Sentences.answers() + " answers, " + Sentences.wrong() + " not as due");
    if (Sentences.wrong() != 0) System.exit(1);
  }
}
