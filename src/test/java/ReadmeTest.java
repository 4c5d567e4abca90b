import java.io.IOException;
import java.lang.reflect.Field;
import java.lang.reflect.Method;
import java.lang.reflect.Modifier;
import java.nio.file.Files;
import java.nio.file.Path;
import java.util.Arrays;
import java.util.Set;
import java.util.TreeSet;
import java.util.regex.Matcher;
import java.util.regex.Pattern;

/** What README.md says of the class is so: its example, its calls with what refuses them, its constants, its clauses. */
public final class ReadmeTest extends Probe {
  private static final Path DOCUMENT = Path.of("../shared/DOC.md");
  private static final Pattern WRITTEN = Pattern.compile("(?m)^for \\(char letter : \"([^\"]*)\"");
  private static final Pattern CALLED = Pattern.compile("(?m)^x\\.(\\w+)\\(([-0-9, ]*)\\); *// (-?\\d+):");
  private static final Pattern CALL_ROW = Pattern.compile("(?m)^\\| `(\\w+)\\(([a-z, ]*)\\)` \\|.*\\| ([A-Z ]*)\\|$");
  private static final Pattern CONSTANT_ROW = Pattern.compile("(?m)^\\| `([A-Z]+)` \\| (-\\d+) \\|");
  private static final Pattern CLAUSE_ROW = Pattern.compile("(?m)^\\| `([a-z]+(?: [A-Z])+)` \\|");

  public static void main(String[] args) throws Exception {
    String readme = Files.readString(Path.of("README.md"));
    example(readme.substring(readme.indexOf("```java"), readme.lastIndexOf("```")));
    calls(readme);
    constants(readme);
    clauses(readme);
    tests(readme);
    end("README.md tells what is so");
  }

  private static void example(String example) throws Exception {
    ShuffledViews x = new ShuffledViews();
    Matcher text = WRITTEN.matcher(example);
    if (!text.find()) {
      fault("the example writes no text");
    } else {
      type(x, text.group(1));
    }
    int calls = 0;
    for (Matcher line = CALLED.matcher(example); line.find(); calls++) {
      due(line.group(), answer(x, line.group(1), numbers(line.group(2))), Integer.parseInt(line.group(3)));
    }
    due("calls of the example that tell their answer", calls, (int) example.lines().filter(l -> l.startsWith("x.")).count());
  }

  private static int[] numbers(String told) {
    return told.isEmpty() ? new int[0] : Arrays.stream(told.split(", ")).mapToInt(Integer::parseInt).toArray();
  }

  private static int answer(ShuffledViews x, String name, int[] numbers) throws Exception {
    Class<?>[] types = new Class<?>[numbers.length];
    Arrays.fill(types, int.class);
    return (int) ShuffledViews.class.getMethod(name, types).invoke(x, Arrays.stream(numbers).boxed().toArray());
  }

  private static void calls(String readme) throws IOException {
    String document = Files.readString(DOCUMENT);
    Set<String> told = new TreeSet<>();
    for (Matcher row = CALL_ROW.matcher(readme); row.find();) {
      String arguments = row.group(2);
      told.add(row.group(1) + " " + (arguments.isEmpty() ? 0 : arguments.split(", ").length));
      dueSame("what refuses " + row.group(1), row.group(3).trim(), refusals(document, row.group(1)));
    }
    Set<String> face = new TreeSet<>();
    for (Method m : ShuffledViews.class.getDeclaredMethods()) {
      if (Modifier.isPublic(m.getModifiers())) {
        face.add(m.getName() + " " + m.getParameterCount());
      }
    }
    dueSame("the calls", told.toString(), face.toString());
  }

  /** Those that the document's promise of a call names; NONE is an answer. */
  private static String refusals(String document, String call) {
    int start = document.indexOf("`int " + call + "(", document.indexOf("## Promise 1:"));
    if (start < 0) {
      return "no promise of " + call;
    }
    String promise = document.substring(start, document.indexOf("##", start));
    StringBuilder refusals = new StringBuilder();
    for (Matcher m = Pattern.compile("\\b(UNKNOWN|OUTSIDE|NOT|FULL|NULL|EMPTY|ROOM)\\b").matcher(promise); m.find();) {
      refusals.append(refusals.length() == 0 ? "" : " ").append(m.group());
    }
    return refusals.toString();
  }

  private static void constants(String readme) throws IllegalAccessException {
    Set<String> told = new TreeSet<>(Set.of("NONE -1"));
    for (Matcher row = CONSTANT_ROW.matcher(readme); row.find();) {
      told.add(row.group(1) + " " + row.group(2));
    }
    Set<String> face = new TreeSet<>();
    for (Field f : ShuffledViews.class.getFields()) {
      face.add(f.getName() + " " + f.getInt(null));
    }
    dueSame("the constants", told.toString(), face.toString());
  }

  private static void clauses(String readme) {
    StringBuilder told = new StringBuilder();
    for (Matcher row = CLAUSE_ROW.matcher(readme); row.find();) {
      told.append(row.group(1)).append(". ");
    }
    dueSame("the clauses", told.toString().trim(), "net N C L S. dead J. sly J. link I J A. cut I J.");
  }

  private static void tests(String readme) throws IOException {
    try (var files = Files.list(Path.of("src/test/java"))) {
      files.map(f -> f.getFileName().toString().replace(".java", "")).filter(t -> !readme.contains("`" + t + "`"))
        .forEach(t -> fault("README.md does not tell of " + t));
    }
  }
}
