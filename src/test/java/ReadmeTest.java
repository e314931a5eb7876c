import java.io.IOException;
import java.lang.reflect.InvocationTargetException;
import java.lang.reflect.Method;
import java.lang.reflect.Modifier;
import java.nio.file.Files;
import java.nio.file.Path;
import java.util.Arrays;
import java.util.List;
import java.util.regex.Matcher;
import java.util.regex.Pattern;
import java.util.stream.Collectors;
import java.util.stream.Stream;

/** README.md: its example answers as it says, and it tells of every call and of every test. */
public final class ReadmeTest {
  private static final Pattern CALL = Pattern.compile("(?m)^life\\.(\\w+)\\((.*?)\\); *// (-?\\d+)\\b");

  public static void main(String[] args) throws IOException, ReflectiveOperationException {
    String page = Files.readString(Path.of("README.md"));
    example(page);
    calls(page);
    tests(page);
    Due.end();
  }

  private static void example(String page) throws ReflectiveOperationException {
    Due.section("the example");
    String block = page.substring(page.indexOf("```java"));
    block = block.substring(0, block.indexOf("```\n"));
    NineLands life = new NineLands();
    Matcher calls = CALL.matcher(block);
    int found = 0;
    while (calls.find()) {
      found++;
      Due.due(calls.group(), answer(life, calls.group(1), calls.group(2)), Long.parseLong(calls.group(3)));
    }
    Due.due("lines that tell an answer", found, block.lines().filter(line -> line.startsWith("life.")).count());
    Due.due("there are some", found > 5 ? 1 : 0, 1);
  }

  private static int answer(NineLands life, String name, String told) throws ReflectiveOperationException {
    Method method = face().filter(one -> one.getName().equals(name)).findFirst().orElseThrow();
    String[] words = told.isEmpty() ? new String[0] : told.split(", ");
    Object[] values = new Object[words.length];
    for (int i = 0; i < words.length; i++) {
      values[i] = value(method.getParameterTypes()[i], words[i]);
    }
    try {
      return (int) method.invoke(life, values);
    } catch (InvocationTargetException thrown) {
      throw new IllegalStateException(name + " threw", thrown.getCause());
    }
  }

  private static Object value(Class<?> type, String word) {
    if (type == boolean.class) {
      return Boolean.valueOf(word);
    }
    if (type == long.class) {
      return Long.valueOf(word.replace("L", ""));
    }
    return Integer.valueOf(word);
  }

  private static Stream<Method> face() {
    return Arrays.stream(NineLands.class.getDeclaredMethods()).filter(one -> Modifier.isPublic(one.getModifiers()));
  }

  private static void calls(String page) {
    Due.section("the calls");
    for (String name : face().map(Method::getName).toList()) {
      Due.due("the table's row of " + name, Pattern.compile("(?m)^\\|.*`" + name + "\\(").matcher(page).find() ? 1 : 0, 1);
    }
  }

  private static void tests(String page) throws IOException {
    Due.section("the tests");
    List<String> told = Pattern.compile("`(\\w+Test)`").matcher(page).results().map(one -> one.group(1)).sorted().toList();
    try (Stream<Path> files = Files.list(Path.of("src/test/java"))) {
      List<String> there = files.map(file -> file.getFileName().toString())
          .filter(name -> name.endsWith("Test.java"))
          .map(name -> name.replace(".java", ""))
          .sorted()
          .collect(Collectors.toList());
      Due.due("told " + told + ", there " + there, told.equals(there) ? 1 : 0, 1);
    }
  }
}
