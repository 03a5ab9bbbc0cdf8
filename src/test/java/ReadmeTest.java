import java.io.IOException;
import java.lang.reflect.InvocationTargetException;
import java.lang.reflect.Method;
import java.nio.file.Files;
import java.nio.file.Path;
import java.util.HashMap;
import java.util.HashSet;
import java.util.Map;
import java.util.Set;
import java.util.regex.Matcher;
import java.util.regex.Pattern;

/** README.md shows calls with their answers: each is made, in its order, and must answer so. */
public final class ReadmeTest {
  private static final Pattern NEW_OBJECT = Pattern.compile("BitNotation codec = new BitNotation\\(\\);");
  private static final Pattern CALL = Pattern.compile(
      "(?:int (\\w+) = )?codec\\.(\\w+)\\(([^()]*)\\); +// (?:(-?\\d+)|throws (\\w+))(?:[:,] .*|)");

  private final Map<String, Integer> names = new HashMap<>();
  private final Set<String> called = new HashSet<>();
  private BitNotation codec = null;

  public static void main(String[] args) throws IOException, IllegalAccessException {
    ReadmeTest test = new ReadmeTest();
    boolean shown = false;
    for (String line : Files.readAllLines(Path.of("README.md"))) {
      if (line.startsWith("```")) {
        shown = line.equals("```java");
      } else if (shown && !line.isBlank()) {
        test.make(line);
      }
    }
    for (Method method : BitNotation.class.getDeclaredMethods()) {
      if (java.lang.reflect.Modifier.isPublic(method.getModifiers())) {
        Due.holds("README.md shows no call of " + method.getName(),
            test.called.contains(method.getName()));
      }
    }
    Due.finish();
  }

  private void make(String line) throws IllegalAccessException {
    if (NEW_OBJECT.matcher(line).matches()) {
      codec = new BitNotation();
      return;
    }
    Matcher call = CALL.matcher(line);
    if (codec == null || !call.matches()) {
      Due.holds("README.md: no call with an answer: " + line, false);
      return;
    }
    called.add(call.group(2));
    String due = call.group(4) != null ? call.group(4) : call.group(5);
    String got = answer(call.group(2), call.group(3));
    Due.holds("README.md: " + line + " answered " + got, got.equals(due));
    if (call.group(1) != null && call.group(4) != null) {
      names.put(call.group(1), Integer.valueOf(call.group(4)));
    }
  }

  private String answer(String name, String arguments) throws IllegalAccessException {
    String[] texts = arguments.isEmpty() ? new String[0] : arguments.split(", ");
    Object[] values = new Object[texts.length];
    for (int i = 0; i < texts.length; i++) {
      values[i] = value(texts[i]);
    }
    for (Method method : BitNotation.class.getMethods()) {
      if (method.getName().equals(name) && method.getParameterCount() == values.length) {
        try {
          return method.invoke(codec, values).toString();
        } catch (InvocationTargetException e) {
          return e.getCause().getClass().getSimpleName();
        }
      }
    }
    return "nothing: there is no such method";
  }

  private Object value(String text) {
    if (text.equals("true") || text.equals("false")) {
      return Boolean.valueOf(text);
    }
    return names.containsKey(text) ? names.get(text) : Integer.valueOf(text);
  }
}
