import java.io.IOException;
import java.lang.management.ManagementFactory;
import java.lang.reflect.Field;
import java.lang.reflect.Method;
import java.lang.reflect.Modifier;
import java.nio.file.Files;
import java.nio.file.Path;
import java.util.Arrays;
import java.util.HashMap;
import java.util.List;
import java.util.Map;
import java.util.Set;
import java.util.TreeSet;
import java.util.regex.Matcher;
import java.util.regex.Pattern;
import java.util.stream.Collectors;

/** The public face, the rules of ../shared/LANGUAGE.md that a short look can find broken, and the room of the calls. */
public final class LanguageTest {
  private static final String[] FACE = {
    "int feed(int, long)", "int spell()", "int spellOf(int, int)", "int show(int, boolean)", "int law(int, int, int)",
    "int kind(int, int)", "int pact(int, int, boolean)", "int counts(int, int)", "int month(int, int)", "int over(int)",
    "int alone(int, int)", "int lacks(int, boolean)", "int owed(int)", "int rests()", "int all()",
    "int asks(int, int, int)", "int when(int, int)", "int lives(int)", "int where()", "int edge(int, int)",
    "int hangs()", "int year(int, int)", "int proof(int)", "int put(int)", "int judge()", "int image()", "int on()",
    "int count(int)",
  };
  private static final Set<Class<?>> CONSTANTS =
      Set.of(int.class, long.class, boolean.class, char.class, String.class, int[].class, long[].class, char[].class, byte[].class);
  private static final String FORBIDDEN =
      "\\b(throw|throws|try|catch|finally|synchronized|assert|volatile|float|double|protected|System\\.(?!arraycopy)\\w+)\\b"
      + "|->|::|\\w+Exact\\b|@|\" *\\+|\\+ *\"";

  public static void main(String[] args) throws IOException {
    face();
    for (Class<?> type : types()) {
      members(type);
    }
    String source = Files.readString(Path.of("src/main/java/NineLands.java"));
    source(source);
    calls(source);
    room();
    Due.end();
  }

  private static List<Class<?>> types() {
    List<Class<?>> types = new java.util.ArrayList<>(List.of(NineLands.class));
    types.addAll(List.of(NineLands.class.getDeclaredClasses()));
    return types;
  }

  private static void wrong(boolean is, String what) {
    Due.due(what, is ? 1 : 0, 0);
  }

  private static String told(Method method) {
    String types = Arrays.stream(method.getParameterTypes()).map(Class::getSimpleName).collect(Collectors.joining(", "));
    return method.getReturnType().getSimpleName() + " " + method.getName() + "(" + types + ")";
  }

  private static void face() {
    Due.section("the face");
    Class<?> type = NineLands.class;
    wrong(!Modifier.isFinal(type.getModifiers()) || !Modifier.isPublic(type.getModifiers()), "public and final");
    Due.due("constructors", type.getDeclaredConstructors().length, 1);
    Due.due("public constructors", type.getConstructors().length, 1);
    Due.due("its parameters", type.getConstructors()[0].getParameterCount(), 0);
    Set<String> found = new TreeSet<>();
    for (Method method : type.getDeclaredMethods()) {
      if (Modifier.isPublic(method.getModifiers())) {
        found.add(told(method));
      } else {
        wrong(!Modifier.isPrivate(method.getModifiers()), method + " is neither public nor private");
      }
    }
    wrong(!found.equals(new TreeSet<>(List.of(FACE))), "public methods " + found);
    for (Field field : type.getDeclaredFields()) {
      wrong(!Modifier.isPrivate(field.getModifiers()), field + " is not private");
    }
  }

  private static void members(Class<?> type) {
    Due.section("members of " + type.getSimpleName());
    boolean isFace = type == NineLands.class;
    wrong(!isFace && (!Modifier.isStatic(type.getModifiers()) || Modifier.isPublic(type.getModifiers())), "nested");
    Set<String> publicNames = Arrays.stream(FACE).map(m -> m.replaceAll("int (\\w+).*", "$1")).collect(Collectors.toSet());
    for (Method method : type.getDeclaredMethods()) {
      boolean isOfFace = isFace && Modifier.isPublic(method.getModifiers());
      wrong(!isOfFace && publicNames.contains(method.getName()), method + " bears a public one's name");
      wrong(method.getParameterCount() > 7, method + " takes more than seven");
    }
    int fields = 0;
    for (Field field : type.getDeclaredFields()) {
      if (!Modifier.isStatic(field.getModifiers())) {
        fields++;
      } else {
        wrong(!Modifier.isFinal(field.getModifiers()) || !CONSTANTS.contains(field.getType()), field + " is no constant");
      }
    }
    wrong(fields > 20, fields + " fields");
  }

  private static void source(String source) {
    Due.section("the source");
    wrong(source.chars().anyMatch(sign -> sign > 127), "a sign above 127");
    String code = source.replaceAll("(?s)/\\*.*?\\*/", "").replaceAll("//[^\n]*", "");
    Matcher forbidden = Pattern.compile(FORBIDDEN).matcher(code);
    while (forbidden.find()) {
      wrong(true, "forbidden: " + forbidden.group());
    }
    Matcher imports = Pattern.compile("import ([^;]+);").matcher(code);
    while (imports.find()) {
      wrong(!List.of("java.util.Arrays", "java.util.ArrayList", "java.util.List").contains(imports.group(1)), imports.group());
    }
    wrong(types().size() > 12, "too many classes");
    int opened = 0;
    String[] lines = source.split("\n");
    for (int line = 0; line < lines.length; line++) {
      boolean opens = lines[line].matches(" +(public|private) .*\\) \\{");
      boolean closes = lines[line].matches(" {2}( {2})?\\}");
      opened = opens ? line : opened;
      wrong(closes && opened > 0 && line - opened > 60, "a long method at line " + (opened + 1));
      opened = closes ? 0 : opened;
    }
  }

  /** Rule 11: as no method bears another's name, nor calls itself by others, the names tell how deep calls go. */
  private static void calls(String source) {
    Due.section("the depth of calls");
    String code = source.replaceAll("(?s)/\\*.*?\\*/", "").replaceAll("//[^\n]*", "").replaceAll("'.'", "' '");
    Map<String, String> bodies = new HashMap<>();
    Matcher methods = Pattern.compile("(?ms)^( +)(?:public|private) [^;={}]*?(\\w+)\\([^;={}]*\\) \\{$(.*?)^\\1\\}$").matcher(code);
    while (methods.find()) {
      wrong(bodies.put(methods.group(2), methods.group(3)) != null, methods.group(2) + " twice");
    }
    int declared = types().stream().mapToInt(type -> type.getDeclaredMethods().length).sum();
    // Two constructors are written out, and are found beside the methods.
    Due.due("methods found", bodies.size(), declared + 2);
    for (String name : bodies.keySet()) {
      int depth = depth(bodies, name, 1);
      wrong(depth > 8, name + " goes " + depth + " deep");
    }
  }

  /** How deep a method stands with all that it calls, the library's own among them; 9 and no deeper, if it never ends. */
  private static int depth(Map<String, String> bodies, String name, int depth) {
    int deepest = depth;
    Matcher called = Pattern.compile("\\b(?!(?:if|for|while|switch|return)\\b)(\\w+)\\(").matcher(bodies.getOrDefault(name, ""));
    while (called.find() && depth <= 8) {
      deepest = Math.max(deepest, depth(bodies, called.group(1), depth + 1));
    }
    return deepest;
  }

  /** Calls of every method make no objects at all; only the constructor does. */
  private static void room() {
    Due.section("the room");
    var threads = (com.sun.management.ThreadMXBean) ManagementFactory.getThreadMXBean();
    long self = Thread.currentThread().getId();
    NineLands x = Due.life("0b0-150*10", "1s100-300*20", "2a0-5*1");
    x.show(2, false);
    callEach(x);
    long before = threads.getThreadAllocatedBytes(self);
    for (int i = 0; i < 100; i++) {
      callEach(x);
    }
    long made = threads.getThreadAllocatedBytes(self) - before;
    wrong(made > 10000, "3000 calls made objects of " + made + " bytes");
  }

  private static void callEach(NineLands x) {
    x.feed(1, 7);
    x.spell();
    x.spellOf(0, 0);
    x.show(0, true);
    x.law(0, 0, 1);
    x.kind(0, 5);
    x.pact(0, 1, true);
    x.counts(0, 3);
    x.month(0, 0);
    x.over(1);
    x.alone(0, 5);
    x.lacks(0, true);
    x.owed(0);
    x.rests();
    x.all();
    x.asks(0, 800, 900);
    x.when(0, 900);
    x.lives(0);
    x.where();
    x.edge(2, 0);
    x.hangs();
    x.year(9, 1);
    x.proof(2);
    x.put(1);
    x.judge();
    x.image();
    x.on();
    x.count(11);
  }
}
