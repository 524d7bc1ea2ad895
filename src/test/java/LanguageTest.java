import com.sun.source.tree.*;
import com.sun.source.util.JavacTask;
import com.sun.source.util.TreePath;
import com.sun.source.util.TreePathScanner;
import com.sun.source.util.Trees;
import java.io.File;
import java.util.HashMap;
import java.util.HashSet;
import java.util.LinkedHashMap;
import java.util.List;
import java.util.Map;
import java.util.Set;
import javax.lang.model.element.Element;
import javax.lang.model.element.ElementKind;
import javax.lang.model.element.ExecutableElement;
import javax.lang.model.element.Modifier;
import javax.lang.model.element.TypeElement;
import javax.tools.JavaCompiler;
import javax.tools.StandardJavaFileManager;
import javax.tools.ToolProvider;

/** Holds src/main/java/PhraseMoods.java against those rules of LANGUAGE.md that its tree shows. */
final class LanguageTest {
  private static final String FILE = "src/main/java/PhraseMoods.java";
  private static final Set<String> LIBRARY = Set.of("java.lang.System.arraycopy", "java.util.Arrays.fill",
    "java.util.Arrays.copyOf", "java.util.Arrays.copyOfRange", "java.lang.Math.max", "java.lang.Math.min", "java.lang.Math.abs");
  private static final int DEEPEST = 8;

  private static final Map<ExecutableElement, Set<ExecutableElement>> CALLS = new LinkedHashMap<>();
  private static final Map<ExecutableElement, Integer> DEPTHS = new HashMap<>();
  private static final Set<String> FACE = new HashSet<>();
  private static int classes = 0;

  public static void main(String[] args) throws Exception {
    JavaCompiler compiler = ToolProvider.getSystemJavaCompiler();
    try (StandardJavaFileManager files = compiler.getStandardFileManager(null, null, null)) {
      JavacTask task = (JavacTask) compiler.getTask(null, files, null, List.of("-proc:none"), null,
        files.getJavaFileObjects(new File(FILE)));
      CompilationUnitTree unit = task.parse().iterator().next();
      task.analyze();
      for (ImportTree i : unit.getImports()) {
        holds(i.getQualifiedIdentifier().toString().matches("java\\.util\\.(Arrays|ArrayList|List|Iterator|NoSuchElementException)"),
          "rule 4: " + i);
      }
      new Face(Trees.instance(task)).scan(unit, null);
      new Rules(Trees.instance(task), unit).scan(unit, null);
    }
    holds(classes <= 12, "rule 11: " + classes + " classes");
    for (ExecutableElement m : CALLS.keySet()) {
      int depth = depthOf(m, new HashSet<>());
      holds(depth <= DEEPEST, "rule 11: " + m.getEnclosingElement() + "." + m + " goes " + depth + " deep: " + deepest(m));
    }
    Due.end();
  }

  private static void holds(boolean does, String what) {
    Due.due(what, does ? 1 : 0, 1);
  }

  private static int depthOf(ExecutableElement m, Set<ExecutableElement> open) {
    if (!CALLS.containsKey(m)) {
      return 0;
    }
    if (!open.add(m)) {
      holds(false, "rule 8: " + m + " calls itself");
      return 0;
    }
    Integer known = DEPTHS.get(m);
    int deepest = known == null ? 0 : known - 1;
    if (known == null) {
      for (ExecutableElement called : CALLS.get(m)) {
        deepest = Math.max(deepest, depthOf(called, open));
      }
    }
    open.remove(m);
    DEPTHS.put(m, deepest + 1);
    return deepest + 1;
  }

  private static String deepest(ExecutableElement m) {
    StringBuilder way = new StringBuilder(m.getSimpleName());
    for (ExecutableElement called : CALLS.get(m)) {
      if (DEPTHS.getOrDefault(called, 0) == DEPTHS.get(m) - 1) {
        return way.append(", ").append(deepest(called)).toString();
      }
    }
    return way.toString();
  }

  /** Gathers the names of the public methods. */
  private static final class Face extends TreePathScanner<Void, Void> {
    private final Trees trees;

    Face(Trees trees) {
      this.trees = trees;
    }

    @Override
    public Void visitMethod(MethodTree t, Void v) {
      if (trees.getElement(getCurrentPath()).getModifiers().contains(Modifier.PUBLIC)) {
        FACE.add(t.getName().toString());
      }
      return super.visitMethod(t, v);
    }
  }

  private static final class Rules extends TreePathScanner<Void, Void> {
    private final Trees trees;
    private final CompilationUnitTree unit;
    private ExecutableElement method;

    Rules(Trees trees, CompilationUnitTree unit) {
      this.trees = trees;
      this.unit = unit;
    }

    private Element here() {
      return trees.getElement(getCurrentPath());
    }

    private long line(long position) {
      return unit.getLineMap().getLineNumber(position);
    }

    private String where(Tree t) {
      return " in line " + line(trees.getSourcePositions().getStartPosition(unit, t));
    }

    @Override
    public Void visitClass(ClassTree t, Void v) {
      classes++;
      TypeElement type = (TypeElement) here();
      long fields = type.getEnclosedElements().stream()
        .filter(e -> e.getKind() == ElementKind.FIELD && !e.getModifiers().contains(Modifier.STATIC)).count();
      holds(fields <= 20, "rule 11: " + fields + " fields of " + type);
      if (type.getEnclosingElement().getKind() == ElementKind.PACKAGE) {
        holds(type.getModifiers().containsAll(Set.of(Modifier.PUBLIC, Modifier.FINAL)), "rule 1: " + type);
        for (Element e : type.getEnclosedElements()) {
          boolean mayBeSeen = e.getModifiers().contains(Modifier.PUBLIC) || e.getModifiers().contains(Modifier.PRIVATE);
          holds(mayBeSeen || e.getKind().isClass() || e.getKind().isInterface(), "rule 1: " + e);
        }
      } else {
        holds(type.getModifiers().contains(Modifier.STATIC) && !type.getModifiers().contains(Modifier.PUBLIC), "rule 2: " + type);
      }
      return super.visitClass(t, v);
    }

    @Override
    public Void visitMethod(MethodTree t, Void v) {
      method = (ExecutableElement) here();
      CALLS.put(method, new HashSet<>());
      long first = line(trees.getSourcePositions().getStartPosition(unit, t));
      long last = line(trees.getSourcePositions().getEndPosition(unit, t));
      holds(last - first < 60, "rule 11: " + (last - first + 1) + " lines of " + method);
      holds(t.getParameters().size() <= 7, "rule 11: " + method);
      boolean isConstructor = method.getKind() == ElementKind.CONSTRUCTOR;
      holds(isConstructor || method.getModifiers().contains(Modifier.PUBLIC) || !FACE.contains(t.getName().toString()), "rule 1: " + method);
      super.visitMethod(t, v);
      method = null;
      return null;
    }

    @Override
    public Void visitMethodInvocation(MethodInvocationTree t, Void v) {
      Element e = trees.getElement(TreePath.getPath(getCurrentPath(), t.getMethodSelect()));
      ExecutableElement called = (ExecutableElement) e;
      String owner = called.getEnclosingElement().toString();
      if (owner.startsWith("PhraseMoods")) {
        CALLS.get(method).add(called);
      } else {
        boolean isSuper = owner.equals("java.lang.Object") && called.getKind() == ElementKind.CONSTRUCTOR;
        holds(isSuper || LIBRARY.contains(owner + "." + called.getSimpleName()), "rule 4: " + owner + "." + called + where(t));
      }
      return super.visitMethodInvocation(t, v);
    }

    @Override
    public Void visitVariable(VariableTree t, Void v) {
      Element e = here();
      boolean isStatic = e.getKind() == ElementKind.FIELD && e.getModifiers().contains(Modifier.STATIC);
      holds(!isStatic || e.getModifiers().contains(Modifier.FINAL), "rule 5: " + t.getName());
      return super.visitVariable(t, v);
    }

    @Override
    public Void visitBlock(BlockTree t, Void v) {
      holds(getCurrentPath().getParentPath().getLeaf().getKind() != Tree.Kind.CLASS, "rule 5: a block" + where(t));
      return super.visitBlock(t, v);
    }

    @Override
    public Void visitLambdaExpression(LambdaExpressionTree t, Void v) {
      holds(false, "rule 2: a lambda" + where(t));
      return super.visitLambdaExpression(t, v);
    }

    @Override
    public Void visitMemberReference(MemberReferenceTree t, Void v) {
      holds(false, "rule 2: a method reference" + where(t));
      return super.visitMemberReference(t, v);
    }

    @Override
    public Void visitTry(TryTree t, Void v) {
      holds(false, "nothing here throws, so nothing is caught" + where(t));
      return super.visitTry(t, v);
    }

    @Override
    public Void visitThrow(ThrowTree t, Void v) {
      holds(false, "the document names no exception" + where(t));
      return super.visitThrow(t, v);
    }

    @Override
    public Void visitTypeCast(TypeCastTree t, Void v) {
      holds(t.getType().getKind() == Tree.Kind.PRIMITIVE_TYPE, "rule 6: a cast" + where(t));
      return super.visitTypeCast(t, v);
    }

    @Override
    public Void visitWhileLoop(WhileLoopTree t, Void v) {
      holds(false, "rule 9: each loop here is a for with its bound" + where(t));
      return super.visitWhileLoop(t, v);
    }

    @Override
    public Void visitSynchronized(SynchronizedTree t, Void v) {
      holds(false, "rule 6: synchronized" + where(t));
      return super.visitSynchronized(t, v);
    }

    @Override
    public Void visitNewClass(NewClassTree t, Void v) {
      holds(method == null || method.getKind() == ElementKind.CONSTRUCTOR, "rule 12: an object made by a call" + where(t));
      return super.visitNewClass(t, v);
    }

    @Override
    public Void visitNewArray(NewArrayTree t, Void v) {
      holds(method == null || method.getKind() == ElementKind.CONSTRUCTOR, "rule 12: an array made by a call" + where(t));
      return super.visitNewArray(t, v);
    }
  }
}
