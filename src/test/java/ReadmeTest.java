import java.lang.reflect.Method;
import java.lang.reflect.Modifier;
import java.nio.file.Files;
import java.nio.file.Path;
import java.util.HashSet;
import java.util.List;
import java.util.Set;
import java.util.regex.Matcher;
import java.util.regex.Pattern;

// What README.md says of the calls is so: its example gives the answers written beside it,
// and no call of the class is missing from its table or from its example.
public final class ReadmeTest {
  private static final Pattern CALL =
      Pattern.compile("x\\.(\\w+)\\((.*)\\);\\s*// (?:(-?\\d+): )?.*");
  private static int wrong = 0;

  private static void fault(String text) {
    wrong++;
    System.out.println(text);
  }

  public static void main(String[] args) throws Exception {
    List<String> lines = Files.readAllLines(Path.of("README.md"));
    Set<String> shown = playExample(lines);
    for (Method method : NestedWords.class.getDeclaredMethods()) {
      if (Modifier.isPublic(method.getModifiers())) {
        lookFor(method.getName(), lines, shown);
      }
    }
    System.out.println(wrong == 0 ? "README.md is as due" : wrong + " faults in README.md");
    if (wrong != 0) {
      System.exit(1);
    }
  }

  private static void lookFor(String name, List<String> lines, Set<String> shown) {
    if (lines.stream().noneMatch(line -> line.startsWith("| `" + name + "("))) {
      fault("the table does not tell of " + name);
    }
    if (!shown.contains(name)) {
      fault("the example does not call " + name);
    }
  }

  private static Set<String> playExample(List<String> lines) throws Exception {
    Set<String> shown = new HashSet<>();
    NestedWords x = new NestedWords();
    for (String line : lines) {
      if (line.startsWith("x.")) {
        Matcher call = CALL.matcher(line);
        if (call.matches()) {
          shown.add(call.group(1));
          make(x, line, call);
        } else {
          fault("not a call with its answer: " + line);
        }
      }
    }
    return shown;
  }

  private static void make(NestedWords x, String line, Matcher call) throws Exception {
    String text = call.group(2);
    String[] numbers = text.isEmpty() ? new String[0] : text.split(", ");
    for (Method method : NestedWords.class.getDeclaredMethods()) {
      if (method.getName().equals(call.group(1))) {
        Object answer = method.invoke(x, arguments(method, numbers));
        String got = answer == null ? null : answer.toString();
        if (got == null ? call.group(3) != null : !got.equals(call.group(3))) {
          fault("answered " + got + ": " + line);
        }
      }
    }
  }

  private static Object[] arguments(Method method, String[] texts) {
    Class<?>[] types = method.getParameterTypes();
    Object[] values = new Object[types.length];
    for (int i = 0; i < types.length; i++) {
      if (types[i] == boolean.class) {
        values[i] = Boolean.valueOf(texts[i]);
      } else {
        values[i] = Integer.valueOf(texts[i]);
      }
    }
    return values;
  }
}
