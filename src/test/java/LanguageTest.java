import java.lang.reflect.Field;
import java.lang.reflect.Method;
import java.lang.reflect.Modifier;
import java.nio.file.Files;
import java.nio.file.Path;
import java.util.Arrays;
import java.util.List;
import java.util.Set;
import java.util.TreeSet;
import java.util.regex.Matcher;
import java.util.regex.Pattern;

/** The face of the document, and those rules of LANGUAGE.md that a look at class and source can tell. */
public final class LanguageTest {
  private static final Path SOURCE = Path.of("src/main/java/ShuffledViews.java");
  private static final Set<String> FACE = new TreeSet<>(List.of(
    "write 1", "erase 0", "fault 0", "net 0", "node 2", "entry 3", "round 1", "cycle 1", "die 2", "link 2", "undo 0",
    "keep 1", "back 1", "forgotten 1", "next 1", "spread 1", "far 2", "ring 1", "add 2", "step 2", "take 1", "count 2",
    "sum 1", "drop 1", "told 1"));
  private static final Set<String> CONSTANTS = new TreeSet<>(List.of(
    "NONE -1", "UNKNOWN -2", "OUTSIDE -3", "NOT -4", "FULL -5", "NULL -11", "EMPTY -12", "ROOM -13"));
  private static int wrong = 0;

  public static void main(String[] args) throws Exception {
    face();
    for (Class<?> c : withNested()) {
      rulesOf(c);
    }
    must(withNested().size() <= 12, "rule 11: more than twelve classes");
    source(Files.readString(SOURCE));
    System.out.println(wrong == 0 ? "the face and the rules are kept" : wrong + " rules are broken");
    if (wrong != 0) {
      System.exit(1);
    }
  }

  private static void must(boolean holds, String what) {
    if (!holds) {
      wrong++;
      System.out.println(what);
    }
  }

  private static List<Class<?>> withNested() {
    List<Class<?>> all = new java.util.ArrayList<>(List.of(ShuffledViews.class));
    all.addAll(Arrays.asList(ShuffledViews.class.getDeclaredClasses()));
    return all;
  }

  private static void face() throws Exception {
    Class<?> c = ShuffledViews.class;
    must(c.getModifiers() == (Modifier.PUBLIC | Modifier.FINAL), "rule 1: the class is public and final");
    Set<String> methods = new TreeSet<>();
    for (Method m : c.getDeclaredMethods()) {
      if (Modifier.isPrivate(m.getModifiers())) {
        continue;
      }
      must(m.getModifiers() == Modifier.PUBLIC, "rule 1: not plainly public: " + m);
      must(m.getReturnType() == int.class, "rule 1: does not answer an int: " + m);
      must(Arrays.stream(m.getParameterTypes()).allMatch(p -> p == int.class), "rule 1: takes another than int: " + m);
      methods.add(m.getName() + " " + m.getParameterCount());
    }
    must(methods.equals(FACE), "rule 1: the methods are " + methods);
    Set<String> constants = new TreeSet<>();
    for (Field f : c.getDeclaredFields()) {
      if (!Modifier.isPrivate(f.getModifiers())) {
        must(f.getModifiers() == (Modifier.PUBLIC | Modifier.STATIC | Modifier.FINAL), "rule 1: no constant: " + f);
        must(f.getType() == int.class, "rule 1: no int: " + f);
        constants.add(f.getName() + " " + f.getInt(null));
      }
    }
    must(constants.equals(CONSTANTS), "rule 1: the constants are " + constants);
    must(c.getDeclaredConstructors().length == 1 && c.getConstructors().length == 1, "rule 1: one public constructor");
    must(c.getConstructors()[0].getParameterCount() == 0, "rule 1: the constructor takes nothing");
  }

  private static void rulesOf(Class<?> c) {
    boolean isOuter = c == ShuffledViews.class;
    must(isOuter || Modifier.isStatic(c.getModifiers()), "rule 2: not static: " + c);
    must(isOuter || !Modifier.isPublic(c.getModifiers()) && !Modifier.isProtected(c.getModifiers()), "rule 1: seen: " + c);
    must(isOuter || c.getDeclaredClasses().length == 0, "rule 2: classes within " + c);
    int fields = 0;
    for (Field f : c.getDeclaredFields()) {
      boolean isStatic = Modifier.isStatic(f.getModifiers());
      must(!isStatic || Modifier.isFinal(f.getModifiers()), "rule 5: not final: " + f);
      must(!isStatic || f.getType().isPrimitive() || f.getType() == String.class, "rule 5: static state: " + f);
      fields += isStatic ? 0 : 1;
    }
    must(fields <= 20, "rule 11: too many fields in " + c);
    for (Method m : c.getDeclaredMethods()) {
      must(m.getParameterCount() <= 7, "rule 11: too many parameters: " + m);
      String name = m.getName();
      boolean isOfTheFace = FACE.stream().anyMatch(f -> f.substring(0, f.indexOf(' ')).equals(name));
      must(!isOfTheFace || isOuter && Modifier.isPublic(m.getModifiers()), "rule 1: bears a public name: " + m);
    }
  }

  private static void source(String source) {
    String code = source.replaceAll("(?s)/\\*.*?\\*/", "").replaceAll("//[^\n]*", "").replaceAll("\"[^\"\n]*\"", "\"\"");
    String[] words = {
      "import", "package", "throw", "throws", "try", "catch", "finally", "synchronized", "assert", "volatile", "native",
      "System.out", "System.exit", "System.nanoTime", "Thread", "Object", "equals", "hashCode", "toString", "Exact", "var"};
    for (String word : words) {
      must(!Pattern.compile("(?<![A-Za-z.])" + Pattern.quote(word) + "(?![A-Za-z])").matcher(code).find(), "not in the language: " + word);
    }
    must(!code.contains("->") && !code.contains("::"), "rule 2: a lambda or a method reference");
    must(!code.contains("@"), "rule 1: an annotation");
    must(source.chars().allMatch(c -> c < 128), "rule 4: a sign beyond 127");
    methodsAreShort(code);
  }

  private static void methodsAreShort(String code) {
    Matcher head = Pattern.compile("\n( {4}| {8})(?! )[^\n;=]*\\([^\n;=]*\\) \\{\n").matcher(code);
    int found = 0;
    while (head.find()) {
      found++;
      int end = code.indexOf("\n" + head.group(1) + "}", head.end() - 1);
      long lines = code.substring(head.start() + 1, end + 1).lines().count() + 1;
      must(lines <= 60, "rule 11: " + lines + " lines: " + head.group().trim());
    }
    must(found > 25, "rule 11: no methods were found in the source");
  }
}
