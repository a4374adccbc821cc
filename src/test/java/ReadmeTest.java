import java.io.IOException;
import java.lang.reflect.Method;
import java.lang.reflect.Modifier;
import java.nio.file.Files;
import java.nio.file.Path;
import java.util.Map;
import java.util.TreeMap;
import java.util.regex.Matcher;
import java.util.regex.Pattern;

/** README.md tells the truth: its examples answer what it says, and its tables have every call and finding. */
public final class ReadmeTest {
  private static final String[] FINDINGS = {"BEYOND", "FULL", "KIND", "NONE", "STATE", "MISSING", "SIZE"};
  private static final String MADE = "FridaySlips village = new FridaySlips();";
  private static final Pattern BLOCK = Pattern.compile("(?s)```java\n(.*?)```");
  private static final Pattern CALL = Pattern.compile("village\\.(\\w+)\\(([^)]*)\\); *// (-?\\d+)(: .*)?");
  private static final Pattern ROW = Pattern.compile("(?m)^\\| `(\\w+)\\(([^)]*)\\)` \\| .+ \\|$");

  private static int wrong = 0;

  private static void hold(boolean so, String what) {
    if (so) return;
    wrong++;
    System.out.println("not so: " + what);
  }

  public static void main(String[] args) throws IOException, ReflectiveOperationException {
    Watchdog.watch();
    String page = Files.readString(Path.of("README.md"));
    Map<String, Method> face = face();
    examples(page, face);
    calls(page, face);
    findings(page);
    hold(page.contains("\n    .ci/run\n"), "the command that runs the tests is told");
    System.out.println(wrong == 0 ? "the page tells the truth" : wrong + " things on the page are not so");
    if (wrong != 0) System.exit(1);
  }

  private static Map<String, Method> face() {
    Map<String, Method> face = new TreeMap<>();
    for (Method m : FridaySlips.class.getDeclaredMethods()) {
      if (Modifier.isPublic(m.getModifiers())) face.put(m.getName(), m);
    }
    return face;
  }

  private static void examples(String page, Map<String, Method> face) throws ReflectiveOperationException {
    Matcher block = BLOCK.matcher(page);
    int blocks = 0;
    while (block.find()) {
      blocks++;
      String[] lines = block.group(1).split("\n");
      hold(lines[0].equals(MADE), "an example makes its object first: " + lines[0]);
      FridaySlips village = new FridaySlips();
      for (int i = 1; i < lines.length; i++) example(village, lines[i], face);
    }
    hold(blocks > 0, "there are examples");
  }

  private static void example(FridaySlips village, String line, Map<String, Method> face)
      throws ReflectiveOperationException {
    Matcher call = CALL.matcher(line);
    boolean told = call.matches() && face.containsKey(call.group(1));
    hold(told, "a call with its answer: " + line);
    if (!told) return;
    Method m = face.get(call.group(1));
    String[] given = parts(call.group(2));
    hold(given.length == m.getParameterCount(), "as many arguments as it takes: " + line);
    if (given.length != m.getParameterCount()) return;
    Object[] arguments = new Object[given.length];
    for (int i = 0; i < given.length; i++) arguments[i] = argument(given[i], m.getParameterTypes()[i]);
    long got = ((Number) m.invoke(village, arguments)).longValue();
    hold(got == Long.parseLong(call.group(3)), line + " answered " + got);
    String words = call.group(4) == null ? "" : call.group(4);
    if (got <= -1000000001L) hold(words.startsWith(": " + FINDINGS[(int) (-1000000001L - got)]), "its finding: " + line);
  }

  private static String[] parts(String told) {
    return told.isEmpty() ? new String[0] : told.split(", ");
  }

  private static Object argument(String told, Class<?> type) {
    if (type == long.class) return Long.decode(told.replace("L", ""));
    return Integer.decode(told);
  }

  private static void calls(String page, Map<String, Method> face) {
    Map<String, Integer> told = new TreeMap<>();
    Matcher row = ROW.matcher(page);
    while (row.find()) {
      hold(told.put(row.group(1), parts(row.group(2)).length) == null, row.group(1) + " is told once");
    }
    for (Method m : face.values()) {
      Integer many = told.remove(m.getName());
      hold(many != null && many == m.getParameterCount(), m.getName() + " is in the tables, with what it takes");
    }
    hold(told.isEmpty(), "the tables tell only what there is: " + told.keySet());
  }

  private static void findings(String page) {
    for (int i = 0; i < FINDINGS.length; i++) {
      String row = "| " + (-1000000001 - i) + " | " + FINDINGS[i] + " | ";
      hold(page.contains(row), "the findings' table has " + row);
    }
  }
}
