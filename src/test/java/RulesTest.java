import com.sun.source.tree.AssignmentTree;
import com.sun.source.tree.BinaryTree;
import com.sun.source.tree.BlockTree;
import com.sun.source.tree.CatchTree;
import com.sun.source.tree.ClassTree;
import com.sun.source.tree.CompilationUnitTree;
import com.sun.source.tree.CompoundAssignmentTree;
import com.sun.source.tree.DoWhileLoopTree;
import com.sun.source.tree.EnhancedForLoopTree;
import com.sun.source.tree.ExpressionStatementTree;
import com.sun.source.tree.ExpressionTree;
import com.sun.source.tree.ForLoopTree;
import com.sun.source.tree.ImportTree;
import com.sun.source.tree.LambdaExpressionTree;
import com.sun.source.tree.LiteralTree;
import com.sun.source.tree.MemberReferenceTree;
import com.sun.source.tree.MethodInvocationTree;
import com.sun.source.tree.MethodTree;
import com.sun.source.tree.NewArrayTree;
import com.sun.source.tree.NewClassTree;
import com.sun.source.tree.SynchronizedTree;
import com.sun.source.tree.ThrowTree;
import com.sun.source.tree.Tree;
import com.sun.source.tree.TryTree;
import com.sun.source.tree.TypeCastTree;
import com.sun.source.tree.UnaryTree;
import com.sun.source.tree.VariableTree;
import com.sun.source.tree.WhileLoopTree;
import com.sun.source.util.JavacTask;
import com.sun.source.util.SourcePositions;
import com.sun.source.util.TreePath;
import com.sun.source.util.TreePathScanner;
import com.sun.source.util.Trees;
import java.io.IOException;
import java.nio.file.Files;
import java.nio.file.Path;
import java.util.ArrayList;
import java.util.HashMap;
import java.util.HashSet;
import java.util.List;
import java.util.Map;
import java.util.Set;
import java.util.TreeMap;
import java.util.TreeSet;
import javax.lang.model.element.Element;
import javax.lang.model.element.ElementKind;
import javax.lang.model.element.Modifier;
import javax.lang.model.element.VariableElement;
import javax.lang.model.type.ArrayType;
import javax.lang.model.type.TypeMirror;
import javax.tools.JavaCompiler;
import javax.tools.StandardJavaFileManager;
import javax.tools.ToolProvider;

/**
 * The rules of LANGUAGE.md that can be read off the program's text, read by the compiler. It is stricter than
 * they are where the program needs less: no enum, no list, no text but constants, no loop but for.
 */
public final class RulesTest extends TreePathScanner<Void, Void> {
  private static final Set<String> LIBRARY = Set.of(
      "java.lang.Math.floorMod", "java.lang.Math.max", "java.lang.Math.min", "java.lang.Integer.bitCount",
      "java.lang.Long.bitCount", "java.lang.System.arraycopy");
  private static final Set<String> EXCEPTIONS = Set.of("IllegalArgumentException", "IllegalStateException");
  private static final Set<String> TYPES = Set.of("int", "long", "byte", "boolean");
  private static final int MOST_PARAMETERS = 7;
  private static final int MOST_LINES = 60;
  private static final int MOST_DEEP = 8;
  private static final int MOST_CLASSES = 12;
  private static final int MOST_FIELDS = 20;
  private static final int MOST_WIDE = 120;

  private static int wrong = 0;

  private final CompilationUnitTree unit;
  private final Trees trees;
  private final SourcePositions positions;
  private final Map<Element, Set<Element>> calls = new HashMap<>();
  private final Map<Element, MethodTree> methods = new HashMap<>();
  private final Map<String, Integer> fields = new TreeMap<>();
  private final Set<String> classes = new TreeSet<>();

  private RulesTest(CompilationUnitTree unit, Trees trees) {
    this.unit = unit;
    this.trees = trees;
    this.positions = trees.getSourcePositions();
  }

  private static void say(String what) {
    wrong++;
    System.out.println("not so: " + what);
  }

  private long line(long position) {
    return unit.getLineMap().getLineNumber(position);
  }

  private void check(boolean holds, int rule, Tree at, String what) {
    if (!holds) say("rule " + rule + ", line " + line(positions.getStartPosition(unit, at)) + ": " + what);
  }

  private Element element(Tree tree) {
    return trees.getElement(trees.getPath(unit, tree));
  }

  private <T extends Tree> T around(Class<T> kind) {
    for (TreePath path = getCurrentPath().getParentPath(); path != null; path = path.getParentPath()) {
      if (kind.isInstance(path.getLeaf())) return kind.cast(path.getLeaf());
    }
    return null;
  }

  private boolean own(Element e) {
    for (Element x = e; x != null; x = x.getEnclosingElement()) {
      if (x.getSimpleName().contentEquals("SetHouse")) return true;
    }
    return false;
  }

  private boolean ownType(TypeMirror type) {
    return type.toString().matches("SetHouse(\\.\\w+)?");
  }

  /** Whether a type is a number, one of the class's own, or a row of either. */
  private boolean allowed(TypeMirror type) {
    TypeMirror one = type instanceof ArrayType ? ((ArrayType) type).getComponentType() : type;
    return TYPES.contains(one.toString()) || ownType(one);
  }

  @Override public Void visitImport(ImportTree tree, Void v) {
    check(false, 4, tree, "nothing is imported");
    return super.visitImport(tree, v);
  }

  @Override public Void visitClass(ClassTree tree, Void v) {
    Tree holder = getCurrentPath().getParentPath().getLeaf();
    boolean top = holder instanceof CompilationUnitTree;
    boolean nested = holder instanceof ClassTree && tree.getModifiers().getFlags().contains(Modifier.STATIC);
    check(top || nested, 2, tree, "a class stands in the class itself and is static");
    check(tree.getKind() == Tree.Kind.CLASS && tree.getExtendsClause() == null, 2, tree, "a plain class");
    classes.add(tree.getSimpleName().toString());
    for (Tree member : tree.getMembers()) check(!(member instanceof BlockTree), 5, member, "no initialiser block");
    return super.visitClass(tree, v);
  }

  @Override public Void visitVariable(VariableTree tree, Void v) {
    Tree holder = getCurrentPath().getParentPath().getLeaf();
    TypeMirror type = element(tree).asType();
    check(holder instanceof CatchTree || allowed(type), 3, tree, "a type of the rules: " + type);
    if (holder instanceof ClassTree) field(tree, ((ClassTree) holder).getSimpleName().toString());
    return super.visitVariable(tree, v);
  }

  private void field(VariableTree tree, String holder) {
    Set<Modifier> flags = tree.getModifiers().getFlags();
    if (!flags.contains(Modifier.STATIC)) {
      fields.merge(holder, 1, Integer::sum);
      return;
    }
    check(flags.contains(Modifier.FINAL), 5, tree, tree.getName() + " is final");
    if (tree.getInitializer() instanceof NewArrayTree) {
      for (ExpressionTree one : ((NewArrayTree) tree.getInitializer()).getInitializers()) {
        check(one instanceof LiteralTree, 5, one, tree.getName() + " is written out");
      }
      return;
    }
    check(((VariableElement) element(tree)).getConstantValue() != null, 5, tree,
        tree.getName() + " is a constant");
  }

  @Override public Void visitMethod(MethodTree tree, Void v) {
    methods.put(element(tree), tree);
    check(tree.getParameters().size() <= MOST_PARAMETERS, 11, tree, tree.getName() + " takes at most seven");
    long end = positions.getEndPosition(unit, tree);
    if (end >= 0) {
      long lines = line(end) - line(positions.getStartPosition(unit, tree)) + 1;
      check(lines <= MOST_LINES, 11, tree, tree.getName() + " has at most sixty lines, not " + lines);
    }
    return super.visitMethod(tree, v);
  }

  @Override public Void visitMethodInvocation(MethodInvocationTree tree, Void v) {
    Element called = element(tree);
    String name = called.getEnclosingElement() + "." + called.getSimpleName();
    if (own(called)) {
      MethodTree caller = around(MethodTree.class);
      check(caller != null, 12, tree, "a call stands in a method");
      if (caller != null) calls.computeIfAbsent(element(caller), x -> new HashSet<>()).add(called);
    } else {
      boolean listed = LIBRARY.contains(name) || called.getKind() == ElementKind.CONSTRUCTOR;
      check(listed, 4, tree, "a function of the rules: " + name);
    }
    return super.visitMethodInvocation(tree, v);
  }

  private boolean inConstructor() {
    MethodTree method = around(MethodTree.class);
    return method == null || method.getReturnType() == null;
  }

  @Override public Void visitNewClass(NewClassTree tree, Void v) {
    check(tree.getClassBody() == null, 2, tree, "no class without a name");
    Tree holder = getCurrentPath().getParentPath().getLeaf();
    check(holder instanceof ThrowTree || inConstructor(), 12, tree, "objects are made in constructors alone");
    return super.visitNewClass(tree, v);
  }

  @Override public Void visitNewArray(NewArrayTree tree, Void v) {
    check(inConstructor(), 12, tree, "rows are made in constructors alone");
    for (ExpressionTree length : tree.getDimensions()) {
      Element told = element(length);
      check(told != null && told.getModifiers().contains(Modifier.FINAL) || length instanceof BinaryTree, 7, length,
          "the length of a row is a constant");
    }
    return super.visitNewArray(tree, v);
  }

  @Override public Void visitThrow(ThrowTree tree, Void v) {
    boolean fresh = tree.getExpression() instanceof NewClassTree;
    check(fresh, 6, tree, "throw new");
    if (fresh) {
      NewClassTree made = (NewClassTree) tree.getExpression();
      check(EXCEPTIONS.contains(made.getIdentifier().toString()), 6, tree, "an exception that the document names");
      for (ExpressionTree text : made.getArguments()) check(text instanceof LiteralTree, 6, tree, "a written text");
    }
    check(!inConstructor(), 6, tree, "no throw in a constructor");
    return super.visitThrow(tree, v);
  }

  @Override public Void visitTry(TryTree tree, Void v) {
    check(tree.getFinallyBlock() == null && tree.getResources().isEmpty(), 6, tree, "no finally, no resources");
    check(!around(MethodTree.class).toString().contains("throw new"), 6, tree, "no try in the method that throws");
    for (CatchTree one : tree.getCatches()) {
      String caught = one.getParameter().getName().toString();
      String type = one.getParameter().getType().toString();
      check(EXCEPTIONS.contains(type), 6, one, "what the MACHINE throws is not caught");
      check(!one.getBlock().toString().matches("(?s).*\\b" + caught + "\\b.*"), 6, one, "the exception is left alone");
    }
    return super.visitTry(tree, v);
  }

  /** A counter that goes up by one, or on to the next SET, against a bound, and is left alone by the body. */
  @Override public Void visitForLoop(ForLoopTree tree, Void v) {
    boolean plain = tree.getCondition() != null && tree.getUpdate().size() == 1;
    check(plain, 9, tree, "a loop has a condition and one step");
    if (plain) {
      String step = ((ExpressionStatementTree) tree.getUpdate().get(0)).getExpression().toString();
      String counter = step.replaceAll("^(\\w+).*", "$1");
      boolean onward = step.matches(counter + " = (Heap\\.)?next\\(.*, " + counter + " \\+ 1\\)");
      boolean up = onward || step.equals(counter + "++");
      boolean down = step.equals(counter + "--");
      String bound = tree.getCondition().toString();
      boolean above = up && bound.matches(".*\\b" + counter + " <=? .*");
      boolean below = down && bound.matches(".*\\b" + counter + " >=? .*");
      check(above || below, 9, tree, "a counter against a bound: " + bound + "; " + step);
      check(!changes(tree.getStatement(), counter), 9, tree, "the body leaves " + counter + " alone");
    }
    return super.visitForLoop(tree, v);
  }

  private boolean changes(Tree body, String name) {
    boolean[] found = new boolean[1];
    new TreePathScanner<Void, Void>() {
      @Override public Void visitAssignment(AssignmentTree tree, Void v) {
        found[0] |= tree.getVariable().toString().equals(name);
        return super.visitAssignment(tree, v);
      }

      @Override public Void visitCompoundAssignment(CompoundAssignmentTree tree, Void v) {
        found[0] |= tree.getVariable().toString().equals(name);
        return super.visitCompoundAssignment(tree, v);
      }

      @Override public Void visitUnary(UnaryTree tree, Void v) {
        found[0] |= tree.toString().matches(name + "(\\+\\+|--)|(\\+\\+|--)" + name);
        return super.visitUnary(tree, v);
      }
    }.scan(trees.getPath(unit, body), null);
    return found[0];
  }

  @Override public Void visitWhileLoop(WhileLoopTree tree, Void v) {
    check(false, 9, tree, "no loop but for");
    return super.visitWhileLoop(tree, v);
  }

  @Override public Void visitDoWhileLoop(DoWhileLoopTree tree, Void v) {
    check(false, 9, tree, "no loop but for");
    return super.visitDoWhileLoop(tree, v);
  }

  @Override public Void visitEnhancedForLoop(EnhancedForLoopTree tree, Void v) {
    check(false, 9, tree, "no loop but with a counter");
    return super.visitEnhancedForLoop(tree, v);
  }

  @Override public Void visitLambdaExpression(LambdaExpressionTree tree, Void v) {
    check(false, 2, tree, "no lambda");
    return super.visitLambdaExpression(tree, v);
  }

  @Override public Void visitMemberReference(MemberReferenceTree tree, Void v) {
    check(false, 2, tree, "no method reference");
    return super.visitMemberReference(tree, v);
  }

  @Override public Void visitSynchronized(SynchronizedTree tree, Void v) {
    check(false, 6, tree, "no synchronized");
    return super.visitSynchronized(tree, v);
  }

  @Override public Void visitTypeCast(TypeCastTree tree, Void v) {
    check(TYPES.contains(tree.getType().toString()), 7, tree, "a cast among numbers, which can't fail");
    return super.visitTypeCast(tree, v);
  }

  @Override public Void visitBinary(BinaryTree tree, Void v) {
    boolean divides = tree.getKind() == Tree.Kind.DIVIDE || tree.getKind() == Tree.Kind.REMAINDER;
    if (divides) divisor(tree);
    return super.visitBinary(tree, v);
  }

  /** The two divisors of the program, each above 0 by the loop that it stands in. */
  private void divisor(BinaryTree tree) {
    ForLoopTree loop = around(ForLoopTree.class);
    String divisor = tree.getRightOperand().toString();
    String starts = loop == null ? "" : loop.getInitializer().toString();
    boolean fromOne = divisor.equals("i") && starts.equals("int i = 1");
    boolean fromK = divisor.equals("(a + 1 - k)") && starts.equals("int a = k");
    check(fromOne || fromK, 7, tree, "a divisor that was looked at: " + divisor);
  }

  /** Whether a method comes to itself again by its own calls. */
  private boolean recurs(Element from) {
    Set<Element> seen = new HashSet<>();
    List<Element> open = new ArrayList<>(calls.getOrDefault(from, Set.of()));
    while (!open.isEmpty()) {
      Element next = open.remove(open.size() - 1);
      if (next.equals(from)) return true;
      if (seen.add(next)) open.addAll(calls.getOrDefault(next, Set.of()));
    }
    return false;
  }

  /** How many methods stand open at most, each of them once. */
  private int depth(Element from, Set<Element> above) {
    if (!above.add(from)) return 0;
    int most = 0;
    for (Element next : calls.getOrDefault(from, Set.of())) most = Math.max(most, depth(next, above));
    above.remove(from);
    return most + 1;
  }

  private void whole(String source) {
    for (Element method : methods.keySet()) {
      MethodTree tree = methods.get(method);
      boolean isPrivate = method.getModifiers().contains(Modifier.PRIVATE);
      check(!recurs(method) || isPrivate, 8, tree, method + " calls itself and is private");
      check(depth(method, new HashSet<>()) <= MOST_DEEP, 11, tree, method + " goes at most eight deep");
      boolean used = method.getModifiers().contains(Modifier.PUBLIC) || method.getKind() == ElementKind.CONSTRUCTOR;
      for (Set<Element> called : calls.values()) used |= called.contains(method);
      check(used, 11, tree, method + " is called");
    }
    if (classes.size() > MOST_CLASSES) say("rule 11: at most twelve classes");
    for (String holder : fields.keySet()) if (fields.get(holder) > MOST_FIELDS) say("rule 11: fields of " + holder);
    String[] lines = source.split("\n", -1);
    for (int i = 0; i < lines.length; i++) if (lines[i].length() > MOST_WIDE) say("line " + (i + 1) + " is too long");
    for (char c : source.toCharArray()) if (c != '\n' && (c < 32 || c > 126)) say("a sign is one of 32 to 126");
  }

  private static void read(Path source) throws IOException {
    JavaCompiler compiler = ToolProvider.getSystemJavaCompiler();
    if (compiler == null) {
      say("there is a compiler to read the program");
      return;
    }
    try (StandardJavaFileManager files = compiler.getStandardFileManager(null, null, null)) {
      List<String> options = List.of("-proc:none");
      JavacTask task = (JavacTask) compiler.getTask(null, files, null, options, null, files.getJavaFileObjects(source));
      CompilationUnitTree unit = task.parse().iterator().next();
      task.analyze();
      RulesTest rules = new RulesTest(unit, Trees.instance(task));
      rules.scan(new TreePath(unit), null);
      rules.whole(Files.readString(source));
      if (rules.methods.size() < 47) say("the program was read: " + rules.methods.size() + " methods");
    }
  }

  /** The source is looked for below the working folder, or where the caller says. */
  public static void main(String[] args) throws IOException {
    Path source = Path.of(args.length > 0 ? args[0] : "src/main/java/SetHouse.java");
    if (Files.exists(source)) read(source);
    else say(source + " is there");
    System.out.println(wrong == 0 ? "the rules are kept" : wrong + " things are not so");
    if (wrong != 0) System.exit(1);
  }
}
