import java.io.IOException;
import java.nio.file.Files;
import java.nio.file.Path;
import java.util.Arrays;
import java.util.List;
import java.util.TreeSet;
import java.util.regex.Matcher;
import java.util.regex.Pattern;

/**
 * What of the rules of ../shared/LANGUAGE.md can be seen in the text of the class. Of what the rules
 * leave under conditions (try, more of the library) the class needs nothing, so that it is looked for
 * as if it was ruled out.
 */
public final class LanguageTest {
  private static final String[] RULED_OUT = {
    "\\bpackage\\b", "\\bimport\\b", "->", "::", "\\btry\\b", "\\bcatch\\b", "\\bfinally\\b",
    "\\bsynchronized\\b", "\\bassert\\b", "\\bvar\\b", "\\bstatic\\s*\\{", "Exact\\(", "\\bstrictfp\\b",
    "\\bnative\\b", "\\btransient\\b", "\\bvolatile\\b", "\\bprotected\\b", "@",
    "\\b(?:equals|hashCode|toString|getClass)\\(", "\"\\s*\\+", "\\+\\s*\"",
  };
  private static final List<String> LIBRARY =
      Arrays.asList("Math.max", "Math.min", "System.arraycopy", "Arrays.fill");
  private static final int LONGEST_METHOD = 60;
  private static final int MOST_PARAMETERS = 7;
  private static final int MOST_CLASSES = 12;

  public static void main(String[] args) throws IOException {
    String source = Files.readString(Path.of("src/main/java/BitNotation.java"));
    String code = source.replaceAll("(?s)/\\*.*?\\*/", "").replaceAll("//[^\n]*", "");
    for (String words : RULED_OUT) {
      Matcher found = Pattern.compile(words).matcher(code);
      Due.holds("the class has, against the rules or without need: " + words, !found.find());
    }
    for (int i = 0; i < source.length(); i++) {
      Due.holds("a sign at " + i + " is none of 1 to 127",
          source.charAt(i) >= 1 && source.charAt(i) <= 127);
    }
    library(code);
    exceptions(code);
    sizes(code);
    Due.finish();
  }

  private static void library(String code) {
    TreeSet<String> used = new TreeSet<>();
    Matcher call = Pattern.compile("\\b(Math|System|Arrays|Integer|Long|List)\\.\\w+").matcher(code);
    while (call.find()) {
      used.add(call.group());
    }
    used.removeAll(LIBRARY);
    Due.holds("the class uses of the library: " + used, used.isEmpty());
  }

  private static void exceptions(String code) {
    Pattern allowed = Pattern.compile("throw new (?:IllegalStateException|IllegalArgumentException"
        + "|IndexOutOfBoundsException)\\((?:\"[^\"]*\")?\\);");
    Matcher thrown = Pattern.compile("\\bthrow\\b").matcher(code);
    while (thrown.find()) {
      Matcher whole = allowed.matcher(code);
      Due.holds("a throw at " + thrown.start() + " is none that the rules leave",
          whole.find(thrown.start()) && whole.start() == thrown.start());
    }
  }

  /** A method of a class begins 2 columns behind it, and ends with a brace in the same column. */
  private static void sizes(String code) {
    String[] lines = code.split("\n");
    int classes = 0;
    int begun = 0;
    String indent = null;
    for (int i = 0; i < lines.length; i++) {
      classes += lines[i].matches(".*\\b(?:class|enum|interface|record) \\w+.*\\{.*") ? 1 : 0;
      if (lines[i].matches("(?:  |    )\\S.*\\(.*") && lines[i].indexOf('=') < 0 && indent == null) {
        indent = lines[i].substring(0, lines[i].length() - lines[i].stripLeading().length());
        begun = i;
        Due.holds("too many parameters: " + lines[i],
            lines[i].split("\\)")[0].split(",").length <= MOST_PARAMETERS);
      }
      if (indent != null && lines[i].equals(indent + "}")) {
        Due.holds("a method of more than " + LONGEST_METHOD + " lines: " + lines[begun],
            i - begun < LONGEST_METHOD);
        indent = null;
      }
    }
    Due.holds("too many classes: " + classes, classes >= 1 && classes <= MOST_CLASSES);
    Due.holds("a method without an end", indent == null);
  }
}
