import com.sun.source.tree.ClassTree;
import com.sun.source.tree.CompilationUnitTree;
import com.sun.source.tree.MethodInvocationTree;
import com.sun.source.tree.MethodTree;
import com.sun.source.tree.NewClassTree;
import com.sun.source.tree.Tree;
import com.sun.source.tree.VariableTree;
import com.sun.source.util.JavacTask;
import com.sun.source.util.TreePath;
import com.sun.source.util.TreePathScanner;
import com.sun.source.util.Trees;
import java.io.IOException;
import java.nio.file.Path;
import java.util.HashMap;
import java.util.HashSet;
import java.util.List;
import java.util.Map;
import java.util.Set;
import java.util.TreeSet;
import javax.lang.model.element.Element;
import javax.lang.model.element.Modifier;
import javax.tools.JavaCompiler;
import javax.tools.StandardJavaFileManager;
import javax.tools.ToolProvider;

/**
 * What LANGUAGE.md asks of classes, fields and of methods that call one another, told by the compiler's own tree of the source:
 * rules 1, 2, 5, 8 and 11. It is run in the project's directory.
 */
public final class LanguageTreeTest {
  private static final Check CHECK = new Check();
  private static final int MOST_CALLS_DEEP = 8;
  private static final int MOST_FIELDS = 20;

  /** Each method's own name, with those of the methods that it calls; the library's are leaves. */
  private final Map<String, Set<String>> calls = new HashMap<>();
  private final Map<String, Integer> deepest = new HashMap<>();
  private final Set<String> recursive = new TreeSet<>();

  public static void main(String[] args) throws IOException {
    JavaCompiler compiler = ToolProvider.getSystemJavaCompiler();
    try (StandardJavaFileManager files = compiler.getStandardFileManager(null, null, null)) {
      JavacTask task = (JavacTask) compiler.getTask(null, files, null, List.of("-proc:none"), null,
          files.getJavaFileObjects(Path.of("src/main/java/QuayBerths.java")));
      CompilationUnitTree unit = task.parse().iterator().next();
      task.analyze();
      new LanguageTreeTest().look(unit, Trees.instance(task));
    }
    CHECK.end();
  }

  private void look(CompilationUnitTree unit, Trees trees) {
    CHECK.due("one class in the file", unit.getTypeDecls().size(), 1);
    new Scanner(trees).scan(unit, null);
    for (String method : calls.keySet()) {
      int deep = deep(method, new HashSet<>());
      CHECK.due("rule 11: calls of " + method + " go at most 8 deep, not " + deep, deep <= MOST_CALLS_DEEP, true);
    }
    CHECK.due("rule 8: methods that call themselves: " + recursive, recursive.equals(Set.of("FirstFour.tryFrom")), true);
  }

  /** How many calls stand open at once, the method's own among them; one that stands open already is recursion. */
  private int deep(String method, Set<String> open) {
    if (!open.add(method)) {
      recursive.add(method);
      return 0;
    }
    Integer known = deepest.get(method);
    int most = 0;
    if (known == null) {
      for (String called : calls.getOrDefault(method, Set.of())) most = Math.max(most, deep(called, open));
      deepest.put(method, most + 1);
    }
    open.remove(method);
    return deepest.get(method);
  }

  private final class Scanner extends TreePathScanner<Void, Void> {
    private final Trees trees;
    private String method = "";

    private Scanner(Trees trees) {
      this.trees = trees;
    }

    @Override
    public Void visitClass(ClassTree tree, Void nothing) {
      boolean outer = tree.getSimpleName().contentEquals("QuayBerths");
      Set<Modifier> flags = tree.getModifiers().getFlags();
      String name = tree.getSimpleName().toString();
      Set<Modifier> due = outer ? Set.of(Modifier.PUBLIC, Modifier.FINAL) : Set.of(Modifier.PRIVATE, Modifier.STATIC, Modifier.FINAL);
      CHECK.due("rules 1, 2: modifiers of " + name, flags.equals(due), true);
      int fields = 0;
      for (Tree member : tree.getMembers()) {
        if (member instanceof VariableTree field) {
          boolean fixed = field.getModifiers().getFlags().contains(Modifier.STATIC);
          fields += fixed ? 0 : 1;
          if (outer) field(field, fixed);
        }
        if (outer && member instanceof MethodTree one && !one.getName().contentEquals("<init>")) {
          Set<Modifier> own = one.getModifiers().getFlags();
          CHECK.due("rule 1: " + one.getName(), own.equals(Set.of(Modifier.PUBLIC)) || own.contains(Modifier.PRIVATE), true);
        }
      }
      CHECK.due("rule 11: fields of " + name + ", " + fields, fields <= MOST_FIELDS, true);
      return super.visitClass(tree, nothing);
    }

    private void field(VariableTree field, boolean fixed) {
      Set<Modifier> flags = field.getModifiers().getFlags();
      boolean none = field.getName().contentEquals("NONE");
      CHECK.due("rule 1: " + field.getName(), flags.contains(none ? Modifier.PUBLIC : Modifier.PRIVATE), true);
      CHECK.due("rule 5: " + field.getName(), !fixed || flags.contains(Modifier.FINAL), true);
    }

    @Override
    public Void visitMethod(MethodTree tree, Void nothing) {
      String outside = method;
      method = name(trees.getElement(getCurrentPath()));
      calls.putIfAbsent(method, new TreeSet<>());
      super.visitMethod(tree, nothing);
      method = outside;
      return null;
    }

    @Override
    public Void visitMethodInvocation(MethodInvocationTree tree, Void nothing) {
      called(new TreePath(getCurrentPath(), tree.getMethodSelect()));
      return super.visitMethodInvocation(tree, nothing);
    }

    @Override
    public Void visitNewClass(NewClassTree tree, Void nothing) {
      called(getCurrentPath());
      return super.visitNewClass(tree, nothing);
    }

    private void called(TreePath path) {
      Element element = trees.getElement(path);
      if (element != null && calls.containsKey(method)) calls.get(method).add(name(element));
    }

    private String name(Element element) {
      return element.getEnclosingElement().getSimpleName() + "." + element.getSimpleName();
    }
  }
}
