import java.io.IOException;
import java.nio.file.Files;
import java.nio.file.Path;
import java.util.List;
import java.util.Set;
import java.util.TreeSet;
import java.util.regex.Matcher;
import java.util.regex.Pattern;

/** What LANGUAGE.md asks and a look at the source can tell. It is run in the project's directory. */
public final class LanguageTest {
  private static final Check CHECK = new Check();
  private static final String MODIFIERS = "(?:(?:private|public|protected|static|final) )*";

  public static void main(String[] args) throws IOException {
    String source = Files.readString(Path.of("src/main/java/QuayBerths.java"));
    String code = source.replaceAll("(?s)/\\*.*?\\*/", "").replaceAll("//[^\n]*", "").replaceAll("\"[^\"\n]*\"", "\"\"");
    for (String word : List.of("throw", "throws", "try", "catch", "synchronized", "assert", "volatile", "native", "protected",
        "package", "Object", "Thread", "Random", "System\\.(?!arraycopy)", "hashCode", "toString", "\\w+Exact",
        "MAX_VALUE", "MIN_VALUE", "null", "instanceof", "new int\\[[^\\]]*\\]\\[[^\\]]*\\]\\[")) {
      CHECK.due("rules 4, 6, 13: " + word, found(code, "\\b" + word + (word.matches("\\w+") ? "\\b" : "")), 0);
    }
    CHECK.due("rule 2: lambdas, references", found(code, "->|::"), 0);
    CHECK.due("rule 4: one import", found(code, "\\bimport "), 1);
    CHECK.due("rule 4: Arrays alone", found(code, "\\bimport java\\.util\\.Arrays;"), 1);
    CHECK.due("rule 5: static fields are final", found(code, "\\bstatic (?!final |boolean \\w+\\(|int \\w+\\(|String \\w+\\()"), 0);
    CHECK.due("rule 3: signs 10 and 32 to 126", found(source, "[^\\n\\x20-\\x7e]"), 0);
    names(code);
    methods(code);
    int classes = found(code, "\\b(class|record|enum|interface) \\w+");
    CHECK.due("rule 11: at most 12 classes, not " + classes, classes <= 12, true);
    CHECK.end();
  }

  private static int found(String code, String what) {
    Matcher matcher = Pattern.compile(what).matcher(code);
    int n = 0;
    while (matcher.find()) n++;
    return n;
  }

  private static void names(String code) {
    Set<String> face = new TreeSet<>();
    Matcher all = Pattern.compile("(?m)^ *(" + MODIFIERS + ")(?:int|boolean|void|String) (\\w+)\\(").matcher(code);
    while (all.find()) if (all.group(1).contains("public")) face.add(all.group(2));
    CHECK.due("rule 1: methods of the face", face.size(), 52);
    all.reset();
    while (all.find()) {
      if (!all.group(1).contains("public")) CHECK.due("rule 1: " + all.group(2), face.contains(all.group(2)), false);
    }
  }

  private static void methods(String code) {
    Matcher heads = Pattern.compile("(?m)^( *)" + MODIFIERS + "(?:(?:int|boolean|void|String) )?\\w+\\(([^)]*)\\) \\{$").matcher(code);
    while (heads.find()) {
      int lines = 1;
      String end = "\n" + heads.group(1) + "}\n";
      for (int i = heads.end(); i < code.indexOf(end, heads.end()); i++) lines += code.charAt(i) == '\n' ? 1 : 0;
      CHECK.due("rule 11: lines of " + heads.group().trim(), lines <= 60, true);
      CHECK.due("rule 11: parameters of " + heads.group().trim(), heads.group(2).split(",").length <= 7, true);
    }
  }
}
