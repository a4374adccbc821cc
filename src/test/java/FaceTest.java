import java.io.IOException;
import java.lang.reflect.Constructor;
import java.lang.reflect.Field;
import java.lang.reflect.Method;
import java.lang.reflect.Modifier;
import java.nio.file.Files;
import java.nio.file.Path;
import java.util.ArrayList;
import java.util.Collections;
import java.util.List;
import java.util.regex.Matcher;
import java.util.regex.Pattern;

/** The public face as the document has it, and what of the language's rules can be seen in class and source. */
public final class FaceTest {
  private static final Path SOURCE = Path.of("src/main/java/FridaySlips.java");
  private static final String[] FACE = {
    "int person(int)", "int of(int,int)", "int says(int)", "int set(int,int,int)", "int turn(int,int)", "int as(int,int)",
    "int swap(int,int)", "int home()", "int draw()", "int seed(int)", "int fridays(int)", "int season(int)", "int now(int)",
    "int who(int)", "int ring(int)", "int rings()", "int pairs()", "int on(int,int,int)", "int itself(int)", "int most()",
    "int slip(int)", "int better()", "int bestAs(int)", "int kind(int)", "int odds(int)", "int lots(int)",
    "int feed(int,int)", "int wipe()", "int village()", "int sheet(int,int,int)", "long write(int,int,long)",
    "int copy(int,int,int,int,int)", "int lays(int)", "int book(int,int)", "int read(int,int)", "int image()",
    "int undo()", "int tear()", "int count(int)", "int status(int)"};

  private static int wrong = 0;

  private static void hold(boolean so, String what) {
    if (so) return;
    wrong++;
    System.out.println("not so: " + what);
  }

  public static void main(String[] args) throws IOException {
    methods();
    members();
    source(Files.readString(SOURCE));
    System.out.println(wrong == 0 ? "the face is as due" : wrong + " things are not as due");
    if (wrong != 0) System.exit(1);
  }

  private static String told(Method m) {
    StringBuilder b = new StringBuilder(m.getReturnType().getName()).append(' ').append(m.getName()).append('(');
    for (int i = 0; i < m.getParameterCount(); i++) {
      b.append(i > 0 ? "," : "").append(m.getParameterTypes()[i].getName());
    }
    return b.append(')').toString();
  }

  private static void methods() {
    List<String> open = new ArrayList<>();
    List<String> names = new ArrayList<>();
    for (Method m : FridaySlips.class.getDeclaredMethods()) {
      if (Modifier.isPrivate(m.getModifiers()) || m.isSynthetic()) continue;
      open.add(told(m));
      names.add(m.getName());
      hold(Modifier.isPublic(m.getModifiers()) && !Modifier.isStatic(m.getModifiers()), m + " is public");
      hold(m.getExceptionTypes().length == 0, m + " tells no exception");
    }
    List<String> due = new ArrayList<>(List.of(FACE));
    Collections.sort(open);
    Collections.sort(due);
    hold(open.equals(due), "the methods are the document's: " + open);
    for (Class<?> c : FridaySlips.class.getDeclaredClasses()) {
      hold(Modifier.isStatic(c.getModifiers()), c + " is static");
      hold(!Modifier.isPublic(c.getModifiers()) && !Modifier.isProtected(c.getModifiers()), c + " is not open");
      for (Method m : c.getDeclaredMethods()) hold(!names.contains(m.getName()), m + " bears no name of the face");
    }
    for (Method m : FridaySlips.class.getDeclaredMethods()) {
      if (Modifier.isPrivate(m.getModifiers())) hold(!names.contains(m.getName()), m + " bears no name of the face");
    }
  }

  private static void members() {
    Class<?> c = FridaySlips.class;
    hold(Modifier.isPublic(c.getModifiers()) && Modifier.isFinal(c.getModifiers()), "the class is public and final");
    Constructor<?>[] made = c.getDeclaredConstructors();
    hold(made.length == 1 && Modifier.isPublic(made[0].getModifiers()) && made[0].getParameterCount() == 0,
        "there is one constructor, public, without parameters");
    hold(c.getDeclaredClasses().length <= 12, "at most twelve classes inside");
    fields(c);
    for (Class<?> inside : c.getDeclaredClasses()) fields(inside);
  }

  private static void fields(Class<?> c) {
    int own = 0;
    for (Field f : c.getDeclaredFields()) {
      if (f.isSynthetic()) continue;
      hold(Modifier.isPrivate(f.getModifiers()), f + " is private");
      if (Modifier.isStatic(f.getModifiers())) hold(Modifier.isFinal(f.getModifiers()), f + " is final");
      else own++;
    }
    hold(own <= 20, c + " has at most twenty fields");
  }

  private static void source(String text) {
    String code = text.replaceAll("(?s)/\\*.*?\\*/", "").replaceAll("//[^\n]*", "");
    for (String word : new String[] {"throw", "throws", "try", "catch", "synchronized", "assert", "package"}) {
      hold(!Pattern.compile("\\b" + word + "\\b").matcher(code).find(), "the source has no " + word);
    }
    hold(!code.contains("->") && !code.contains("::"), "the source has no lambda and no method reference");
    hold(!code.contains("Exact("), "the source calls nothing that ends in Exact");
    Matcher imports = Pattern.compile("import [^;]*;").matcher(code);
    while (imports.find()) hold(imports.group().equals("import java.util.Arrays;"), imports.group() + " may be");
    rooms(code);
    divisors(code);
    lengths(text);
  }

  /** All is made with the object itself, so no run of calls can fill the room. */
  private static void rooms(String code) {
    for (String line : code.split("\n")) {
      if (!Pattern.compile("\\bnew\\b").matcher(line).find()) continue;
      boolean early = line.trim().startsWith("private final ") || line.trim().equals("sheets[s] = new Sheet();");
      hold(early, "made with the object: " + line.trim());
      boolean alone = !line.contains("(") || line.contains("()");
      hold(alone, "a constructor hands out nothing of the object that it makes: " + line.trim());
    }
  }

  /** A divisor is a number, or a name that is held above 0 or looked at in the same line or the one or two before it. */
  private static void divisors(String code) {
    String[] lines = code.split("\n");
    for (int i = 0; i < lines.length; i++) {
      Matcher divided = Pattern.compile("[/%]=? *(\\w+|\\S)").matcher(lines[i]);
      while (divided.find()) {
        String by = divided.group(1);
        String near = lines[Math.max(0, i - 2)] + lines[Math.max(0, i - 1)] + lines[i];
        boolean looked = near.contains(by + " != 0") || near.contains(by + " > 0") || near.contains(by + " = Math.max(1, ");
        hold(by.matches("[1-9]\\d*") || looked, "a divisor is looked at before it divides: " + lines[i].trim());
      }
    }
  }

  /** A method begins with its head's indent and ends with a brace at the same indent. */
  private static void lengths(String text) {
    String[] lines = text.split("\n");
    for (int i = 0; i < lines.length; i++) {
      Matcher head = Pattern.compile("^( +)[a-zA-Z\\[\\]\\. ]+\\([^)]*\\) \\{$").matcher(lines[i]);
      if (!head.find() || lines[i].trim().startsWith("if") || lines[i].trim().startsWith("for")) continue;
      int end = i;
      while (end < lines.length && !lines[end].equals(head.group(1) + "}")) end++;
      hold(end - i <= 60, "a short method: " + lines[i].trim());
    }
  }
}
