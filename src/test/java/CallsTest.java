import com.sun.source.tree.MethodInvocationTree;
import com.sun.source.tree.MethodTree;
import com.sun.source.tree.NewClassTree;
import com.sun.source.util.JavacTask;
import com.sun.source.util.TreePathScanner;
import com.sun.source.util.Trees;
import java.io.File;
import java.util.HashMap;
import java.util.HashSet;
import java.util.List;
import java.util.Map;
import java.util.Set;
import java.util.TreeMap;
import java.util.TreeSet;
import javax.lang.model.element.Element;
import javax.lang.model.element.ElementKind;
import javax.lang.model.element.ExecutableElement;
import javax.lang.model.element.Modifier;
import javax.tools.JavaCompiler;
import javax.tools.StandardJavaFileManager;
import javax.tools.ToolProvider;

/** What LANGUAGE.md says of calls (rules 4, 8, 11), seen as the compiler sees them: who calls whom, and how deep. */
public final class CallsTest {
  private static final int MOST_DEEP = 8;
  /** The library as rule 4 has it, as far as the class uses it. */
  private static final Set<String> LIBRARY = Set.of("java.lang.Object()", "java.lang.String.length", "java.lang.String.charAt",
    "java.lang.Math.max", "java.lang.Math.min", "java.lang.Math.abs", "java.lang.Integer.bitCount",
    "java.lang.System.arraycopy", "java.util.Arrays.fill");
  private static int wrong = 0;

  private final Map<ExecutableElement, Set<ExecutableElement>> calls = new HashMap<>();
  private final Map<ExecutableElement, List<String>> longest = new HashMap<>();
  private final Set<String> library = new TreeSet<>();
  private final Set<ExecutableElement> open = new HashSet<>();

  public static void main(String[] args) throws Exception {
    CallsTest test = new CallsTest();
    test.read(new File("src/main/java/GoodsBook.java"));
    test.library();
    test.depth();
    System.out.println("calls among " + test.calls.size() + " methods, " + wrong + " wrong");
    if (wrong > 0) System.exit(1);
  }

  private static void rule(int number, String what, boolean holds) {
    if (holds) return;
    wrong++;
    System.out.println("rule " + number + ": " + what);
  }

  private void read(File source) throws Exception {
    JavaCompiler compiler = ToolProvider.getSystemJavaCompiler();
    try (StandardJavaFileManager files = compiler.getStandardFileManager(null, null, null)) {
      JavacTask task = (JavacTask) compiler.getTask(null, files, null, List.of("-proc:none"), null, files.getJavaFileObjects(source));
      Iterable<? extends com.sun.source.tree.CompilationUnitTree> units = task.parse();
      task.analyze();
      Finder finder = new Finder(Trees.instance(task));
      for (com.sun.source.tree.CompilationUnitTree unit : units) finder.scan(unit, null);
    }
    rule(1, "no methods were found", calls.size() > 36);
  }

  /** Puts each call under the method in which it stands; what stands outside methods is of no depth to speak of. */
  private final class Finder extends TreePathScanner<Void, Void> {
    private final Trees trees;
    private ExecutableElement in;

    Finder(Trees trees) {
      this.trees = trees;
    }

    @Override
    public Void visitMethod(MethodTree tree, Void none) {
      in = (ExecutableElement) trees.getElement(getCurrentPath());
      calls.put(in, new HashSet<>());
      super.visitMethod(tree, none);
      in = null;
      return none;
    }

    @Override
    public Void visitMethodInvocation(MethodInvocationTree tree, Void none) {
      note(trees.getElement(getCurrentPath()));
      return super.visitMethodInvocation(tree, none);
    }

    @Override
    public Void visitNewClass(NewClassTree tree, Void none) {
      note(trees.getElement(getCurrentPath()));
      return super.visitNewClass(tree, none);
    }

    private void note(Element called) {
      if (in != null) calls.get(in).add((ExecutableElement) called);
      if (!called.getEnclosingElement().toString().startsWith("GoodsBook")) library.add(name((ExecutableElement) called));
    }
  }

  private static String name(ExecutableElement method) {
    String owner = method.getEnclosingElement().toString();
    return method.getKind() == ElementKind.CONSTRUCTOR ? owner + "()" : owner + "." + method.getSimpleName();
  }

  private void library() {
    for (String name : library) rule(4, "the library's " + name, LIBRARY.contains(name));
  }

  /** The library's calls count as calls, too. */
  private void depth() {
    Map<String, List<String>> found = new TreeMap<>();
    for (ExecutableElement method : calls.keySet()) found.put(name(method), chain(method));
    for (List<String> chain : found.values()) rule(11, chain.size() + " deep: " + chain, chain.size() <= MOST_DEEP);
  }

  /** The longest chain of calls from a method on; one that calls itself counts once. */
  private List<String> chain(ExecutableElement method) {
    if (longest.containsKey(method)) return longest.get(method);
    open.add(method);
    List<String> behind = List.of();
    for (ExecutableElement called : calls.getOrDefault(method, Set.of())) {
      if (called.equals(method)) {
        Set<Modifier> modifiers = method.getModifiers();
        rule(8, name(method) + " calls itself", modifiers.contains(Modifier.PRIVATE) && modifiers.contains(Modifier.STATIC));
        continue;
      }
      rule(8, name(method) + " and " + name(called) + " call one another", !open.contains(called));
      if (open.contains(called)) continue;
      List<String> chain = chain(called);
      if (chain.size() > behind.size()) behind = chain;
    }
    open.remove(method);
    List<String> all = new java.util.ArrayList<>(List.of(name(method)));
    all.addAll(behind);
    longest.put(method, all);
    return all;
  }
}
