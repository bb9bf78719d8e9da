import java.io.IOException;
import java.lang.reflect.Method;
import java.lang.reflect.Modifier;
import java.nio.file.Files;
import java.nio.file.Path;
import java.util.regex.Matcher;
import java.util.regex.Pattern;

/** The examples of README.md answer what stands behind their calls, and it names every call. */
public final class ReadmeTest {
  private static final Check check = new Check();
  private static final Pattern CALL = Pattern.compile("x\\.(\\w+)\\((.*)\\); *// (-?\\d+|true|false)\\b.*");
  private static final Pattern STRING = Pattern.compile("\"([^\"]*)\"");

  public static void main(String[] args) throws IOException, ReflectiveOperationException {
    String page = Files.readString(Path.of("README.md"));
    Matcher blocks = Pattern.compile("(?s)```java\n(.*?)```").matcher(page);
    int examples = 0;
    while (blocks.find()) {
      example(blocks.group(1).replaceAll("\n +", " ").split("\n"));
      examples++;
    }
    check.due("examples", examples, 2);
    for (Method m : ShadowCoins.class.getDeclaredMethods()) {
      if (Modifier.isPublic(m.getModifiers())) {
        check.due("the page names " + m.getName(), page.contains("`" + m.getName() + "("), true);
      }
    }
    check.finish();
  }

  private static void example(String[] lines) throws ReflectiveOperationException {
    ShadowCoins x = new ShadowCoins();
    check.due(lines[0], lines[0].equals("ShadowCoins x = new ShadowCoins();"), true);
    for (int k = 1; k < lines.length; k++) {
      if (lines[k].startsWith("tell(x, \"")) {
        Check.tell(x, textOf(lines[k]));
      } else if (lines[k].startsWith("tell(x, ")) {
        Check.tell(x, numbers(lines[k].substring(8, lines[k].indexOf(')'))));
      } else {
        answer(x, lines[k]);
      }
    }
  }

  private static String textOf(String line) {
    StringBuilder text = new StringBuilder();
    Matcher strings = STRING.matcher(line);
    while (strings.find()) {
      text.append(strings.group(1));
    }
    return text.toString();
  }

  private static void answer(ShadowCoins x, String line) throws ReflectiveOperationException {
    Matcher call = CALL.matcher(line);
    if (!call.matches()) {
      check.due("a call with its answer: " + line, false, true);
      return;
    }
    int[] numbers = numbers(call.group(2));
    Class<?>[] types = new Class<?>[numbers.length];
    Object[] arguments = new Object[numbers.length];
    for (int k = 0; k < numbers.length; k++) {
      types[k] = int.class;
      arguments[k] = numbers[k];
    }
    Object got = ShadowCoins.class.getMethod(call.group(1), types).invoke(x, arguments);
    check.due(line + " answered " + got, got.toString().equals(call.group(3)), true);
  }

  private static int[] numbers(String list) {
    if (list.isEmpty()) {
      return new int[0];
    }
    String[] words = list.split(", ");
    int[] numbers = new int[words.length];
    for (int k = 0; k < words.length; k++) {
      numbers[k] = Integer.decode(words[k]);
    }
    return numbers;
  }
}
