import java.nio.file.Files;
import java.nio.file.Path;
import java.util.regex.Pattern;

/** The limits on the source that a search for words can see. */
public final class SourceTest {
  private static final String[] FORBIDDEN = {
      "package", "import", "throw", "throws", "try", "catch", "assert", "synchronized",
      "instanceof", "float", "double", "null", "enum", "interface", "record", "protected",
      "String", "Math", "Integer", "Long", "System", "Arrays", "Object", "java"};

  public static void main(String[] args) throws Exception {
    String source = Files.readString(Path.of("src/main/java/ConnectFour.java"));
    String code = source.replaceAll("(?s)/\\*.*?\\*/", " ").replaceAll("//[^\n]*", " ");
    for (String word : FORBIDDEN) {
      Due.is("uses of " + word, count(code, "\\b" + word + "\\b"), 0);
    }
    Due.is("lambdas and method references", count(code, "->|::"), 0);
    Due.is("static initialisers", count(code, "\\bstatic\\s*\\{"), 0);
    Due.is("classes", count(code, "\\bclass\\b"), 1);
    // Arrays are made in the fields' initialisers alone, so every new stands in one.
    long made = count(code, "\\bnew\\b");
    Due.is("arrays made outside a field's initialiser", made,
        count(code, "(?m)^  private final \\w+\\[\\] \\w+ = new \\w+\\[\\w+\\];$"));
    Due.end();
  }

  private static long count(String code, String pattern) {
    return Pattern.compile(pattern).matcher(code).results().count();
  }
}
