import com.sun.source.tree.ClassTree;
import com.sun.source.tree.CompilationUnitTree;
import com.sun.source.tree.MethodInvocationTree;
import com.sun.source.tree.MethodTree;
import com.sun.source.tree.NewArrayTree;
import com.sun.source.tree.NewClassTree;
import com.sun.source.tree.Tree;
import com.sun.source.util.JavacTask;
import com.sun.source.util.TreePath;
import com.sun.source.util.TreePathScanner;
import com.sun.source.util.Trees;
import java.nio.file.Path;
import java.util.EnumSet;
import java.util.HashSet;
import java.util.List;
import java.util.Map;
import java.util.Set;
import java.util.TreeMap;
import java.util.TreeSet;
import javax.lang.model.element.Element;
import javax.lang.model.element.ElementKind;
import javax.tools.JavaCompiler;
import javax.tools.StandardJavaFileManager;
import javax.tools.ToolProvider;

/** Those rules of LANGUAGE.md that need javac's own reading of the source: what is called, how deep, what is made where. */
public final class SourceTest extends Probe {
  private static final Path SOURCE = Path.of("src/main/java/ShuffledViews.java");
  private static final int MOST_DEEP = 8;
  private static final Set<Tree.Kind> NOT_IN_THE_LANGUAGE = EnumSet.of(
    Tree.Kind.LAMBDA_EXPRESSION, Tree.Kind.MEMBER_REFERENCE, Tree.Kind.TRY, Tree.Kind.THROW, Tree.Kind.SYNCHRONIZED,
    Tree.Kind.ASSERT, Tree.Kind.ANNOTATION, Tree.Kind.IMPORT, Tree.Kind.PACKAGE);
  private static final Map<String, Set<String>> LIBRARY = Map.of(
    "java.lang.String", Set.of("length", "charAt", "isEmpty", "equals", "indexOf", "substring", "toCharArray"),
    "java.lang.Math", Set.of("max", "min", "abs", "floorDiv", "floorMod"),
    "java.lang.Integer", Set.of("bitCount", "compare", "max", "min"),
    "java.lang.System", Set.of("arraycopy"),
    "java.util.Arrays", Set.of("copyOf", "copyOfRange", "fill"));

  public static void main(String[] args) throws Exception {
    JavaCompiler javac = ToolProvider.getSystemJavaCompiler();
    try (StandardJavaFileManager files = javac.getStandardFileManager(null, null, null)) {
      List<String> options = List.of("--release", "17", "-proc:none");
      JavacTask task = (JavacTask) javac.getTask(null, files, null, options, null, files.getJavaFileObjects(SOURCE));
      CompilationUnitTree unit = task.parse().iterator().next();
      task.analyze();
      Reading reading = new Reading(Trees.instance(task));
      reading.scan(unit, null);
      depths(reading.calls);
    }
    end("the source keeps to the language");
  }

  private static void depths(Map<String, Set<String>> calls) {
    if (!calls.containsKey("ShuffledViews.told") || depth(calls, "ShuffledViews.cycle", new HashSet<>()) < 4) {
      fault("the methods of the source were not found");
    }
    for (String method : calls.keySet()) {
      int depth = depth(calls, method, new HashSet<>());
      if (depth > MOST_DEEP) {
        fault("rule 11: " + method + " goes " + depth + " deep");
      }
    }
  }

  private static int depth(Map<String, Set<String>> calls, String method, Set<String> open) {
    if (!open.add(method)) {
      fault("rule 8: " + method + " calls itself");
      return 0;
    }
    int deepest = 0;
    for (String called : calls.getOrDefault(method, Set.of())) {
      deepest = Math.max(deepest, depth(calls, called, open));
    }
    open.remove(method);
    return deepest + 1;
  }

  /** Who calls whom, field initialisers being part of the constructor; what is not in the language is told on the way. */
  private static final class Reading extends TreePathScanner<Void, Void> {
    final Map<String, Set<String>> calls = new TreeMap<>();
    private final Trees trees;
    private String owner = "";
    private String method = "";

    Reading(Trees trees) {
      this.trees = trees;
    }

    @Override
    public Void scan(Tree tree, Void nothing) {
      if (tree != null && NOT_IN_THE_LANGUAGE.contains(tree.getKind())) {
        fault("not in the language: " + tree);
      }
      return super.scan(tree, nothing);
    }

    @Override
    public Void visitClass(ClassTree tree, Void nothing) {
      String ownerBefore = owner;
      String methodBefore = method;
      owner = trees.getElement(getCurrentPath()).toString();
      method = owner + ".<init>";
      super.visitClass(tree, nothing);
      owner = ownerBefore;
      method = methodBefore;
      return nothing;
    }

    @Override
    public Void visitMethod(MethodTree tree, Void nothing) {
      String before = method;
      method = owner + "." + tree.getName();
      calls.computeIfAbsent(method, m -> new TreeSet<>());
      super.visitMethod(tree, nothing);
      method = before;
      return nothing;
    }

    @Override
    public Void visitMethodInvocation(MethodInvocationTree tree, Void nothing) {
      called(trees.getElement(new TreePath(getCurrentPath(), tree.getMethodSelect())));
      return super.visitMethodInvocation(tree, nothing);
    }

    @Override
    public Void visitNewClass(NewClassTree tree, Void nothing) {
      made(tree);
      called(trees.getElement(getCurrentPath()));
      return super.visitNewClass(tree, nothing);
    }

    @Override
    public Void visitNewArray(NewArrayTree tree, Void nothing) {
      made(tree);
      return super.visitNewArray(tree, nothing);
    }

    /** Every row is made with the object and used again, so that 512 calls fill no room. */
    private void made(Tree tree) {
      if (!method.endsWith(".<init>")) {
        fault("rule 12: " + method + " makes " + tree);
      }
    }

    private void called(Element element) {
      String type = element.getEnclosingElement().toString();
      String called = element.getSimpleName().toString();
      if (type.startsWith("ShuffledViews")) {
        calls.computeIfAbsent(method, m -> new TreeSet<>()).add(type + "." + called);
      } else if (!type.equals("java.lang.Object") && !LIBRARY.getOrDefault(type, Set.of()).contains(called)) {
        fault("rule 4: " + method + " calls " + type + "." + called);
      } else if (type.equals("java.lang.Object") && element.getKind() != ElementKind.CONSTRUCTOR) {
        fault("rule 6: " + method + " calls " + called + " of an object");
      }
    }
  }
}
