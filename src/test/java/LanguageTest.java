import com.sun.source.tree.ArrayAccessTree;
import com.sun.source.tree.ArrayTypeTree;
import com.sun.source.tree.AssertTree;
import com.sun.source.tree.BinaryTree;
import com.sun.source.tree.ClassTree;
import com.sun.source.tree.CompilationUnitTree;
import com.sun.source.tree.CompoundAssignmentTree;
import com.sun.source.tree.DoWhileLoopTree;
import com.sun.source.tree.ExpressionTree;
import com.sun.source.tree.IdentifierTree;
import com.sun.source.tree.LambdaExpressionTree;
import com.sun.source.tree.LiteralTree;
import com.sun.source.tree.MemberReferenceTree;
import com.sun.source.tree.MethodInvocationTree;
import com.sun.source.tree.MethodTree;
import com.sun.source.tree.NewArrayTree;
import com.sun.source.tree.NewClassTree;
import com.sun.source.tree.SynchronizedTree;
import com.sun.source.tree.ThrowTree;
import com.sun.source.tree.Tree;
import com.sun.source.tree.TryTree;
import com.sun.source.tree.TypeCastTree;
import com.sun.source.tree.VariableTree;
import com.sun.source.util.JavacTask;
import com.sun.source.util.TreePath;
import com.sun.source.util.TreePathScanner;
import com.sun.source.util.Trees;
import java.io.IOException;
import java.nio.charset.StandardCharsets;
import java.nio.file.Files;
import java.nio.file.Path;
import java.util.List;
import java.util.Map;
import java.util.Set;
import java.util.TreeMap;
import java.util.TreeSet;
import javax.lang.model.element.Element;
import javax.lang.model.element.ElementKind;
import javax.lang.model.element.Modifier;
import javax.lang.model.type.TypeKind;
import javax.lang.model.type.TypeMirror;
import javax.tools.JavaCompiler;
import javax.tools.JavaFileObject;
import javax.tools.StandardJavaFileManager;
import javax.tools.ToolProvider;

/**
 * Holds the class to the rules of ../shared/LANGUAGE.md that can be counted. It asks for a little
 * more than they do where the class needs less: no try, no casts among classes, and no object made
 * but in a constructor or for a throw.
 */
public final class LanguageTest extends TreePathScanner<Void, Void> {
  private static final Set<String> EXCEPTIONS =
      Set.of(
          "IllegalStateException", "IllegalArgumentException", "IndexOutOfBoundsException",
          "ArithmeticException", "UnsupportedOperationException");
  private static final Set<String> LIBRARY =
      Set.of(
          "String.length()", "String.charAt(int)", "StringBuilder.append(char)",
          "StringBuilder.append(java.lang.String)", "StringBuilder.append(int)",
          "StringBuilder.charAt(int)", "StringBuilder.setLength(int)", "StringBuilder.length()",
          "Math.max(int,int)", "Math.min(int,int)", "Math.abs(int)", "Math.floorMod(int,int)",
          "System.arraycopy(java.lang.Object,int,java.lang.Object,int,int)");

  private final Trees trees;
  private final CompilationUnitTree unit;
  private final Path program;
  private final Map<String, Set<String>> calls = new TreeMap<>();
  private final Set<String> faults = new TreeSet<>();
  private int classes = 0;

  private LanguageTest(Trees trees, CompilationUnitTree unit, Path program) {
    this.trees = trees;
    this.unit = unit;
    this.program = program;
  }

  /** Another file than the class itself may be named. */
  public static void main(String[] args) throws IOException {
    Path program = Path.of(args.length > 0 ? args[0] : "src/main/java/TypeWheelTelegraph.java");
    JavaCompiler compiler = ToolProvider.getSystemJavaCompiler();
    try (StandardJavaFileManager files = compiler.getStandardFileManager(null, null, null)) {
      Iterable<? extends JavaFileObject> sources = files.getJavaFileObjects(program);
      JavacTask task =
          (JavacTask) compiler.getTask(null, files, null, List.of("-proc:none"), null, sources);
      CompilationUnitTree unit = task.parse().iterator().next();
      task.analyze();
      LanguageTest test = new LanguageTest(Trees.instance(task), unit, program);
      test.scan(unit, null);
      test.holds();
    }
    Due.end("LanguageTest");
  }

  private void holds() throws IOException {
    Due.equal("the package (rule 1)", unit.getPackage(), null);
    Due.equal("the imports (rule 4)", unit.getImports(), "");
    Due.equal("the classes of the file (rule 1)", unit.getTypeDecls().size(), 1);
    Due.equal("at most twelve classes, " + classes + " (rule 11)", classes <= 12, true);
    for (byte sign : Files.readString(program).getBytes(StandardCharsets.UTF_8)) {
      if (sign != '\n' && (sign < ' ' || sign > '~')) {
        faults.add("rule 4: a sign that is not 32 to 126");
      }
    }
    int deepest = 0;
    for (String method : calls.keySet()) {
      deepest = Math.max(deepest, depth(method, 1));
    }
    Due.equal("calls are at most eight deep, " + deepest + " (rule 11)", deepest <= 8, true);
    Due.equal("calls are looked at (" + calls.size() + " methods)", calls.size() > 100, true);
    Due.equal("the faults", String.join("; ", faults), "");
  }

  /** How many calls stand open at once below this method; a recursion would never end. */
  private int depth(String method, int above) {
    int deepest = above;
    if (above > 40) {
      faults.add("rule 8: a recursion through " + method);
      return above;
    }
    for (String called : calls.getOrDefault(method, Set.of())) {
      deepest = Math.max(deepest, depth(called, above + 1));
    }
    return deepest;
  }

  private void fault(int rule, Tree where) {
    long line = unit.getLineMap().getLineNumber(
        trees.getSourcePositions().getStartPosition(unit, where));
    faults.add("rule " + rule + ", line " + line + ": " + where.toString().split("\n")[0]);
  }

  private void must(boolean holds, int rule, Tree where) {
    if (!holds) {
      fault(rule, where);
    }
  }

  @Override
  public Void visitClass(ClassTree node, Void nothing) {
    classes++;
    Set<Modifier> modifiers = node.getModifiers().getFlags();
    boolean isFace = classes == 1;
    must(node.getKind() == Tree.Kind.CLASS && modifiers.contains(Modifier.FINAL), 1, node);
    must(modifiers.contains(isFace ? Modifier.PUBLIC : Modifier.PRIVATE), 1, node);
    must(isFace || modifiers.contains(Modifier.STATIC), 2, node);
    must(node.getExtendsClause() == null && node.getImplementsClause().isEmpty(), 2, node);
    must(node.getTypeParameters().isEmpty(), 2, node);
    int fields = 0;
    for (Tree member : node.getMembers()) {
      if (member instanceof VariableTree field) {
        boolean isConstant = field.getModifiers().getFlags().contains(Modifier.STATIC);
        fields += isConstant ? 0 : 1;
        must(!isConstant || isConstant(field), 5, field);
      }
      must(member.getKind() != Tree.Kind.BLOCK, 5, member);
      must(!(member instanceof ClassTree) || isFace, 2, member);
    }
    must(fields <= 20, 11, node);
    return super.visitClass(node, nothing);
  }

  private static boolean isConstant(VariableTree field) {
    Set<String> types = Set.of("int", "long", "boolean", "char", "String");
    return field.getModifiers().getFlags().contains(Modifier.FINAL)
        && types.contains(field.getType().toString())
        && field.getInitializer() != null;
  }

  @Override
  public Void visitMethod(MethodTree node, Void nothing) {
    must(node.getParameters().size() <= 7, 11, node);
    long first = trees.getSourcePositions().getStartPosition(unit, node);
    long last = trees.getSourcePositions().getEndPosition(unit, node);
    if (first >= 0 && last > first) {
      long lines = unit.getLineMap().getLineNumber(last) - unit.getLineMap().getLineNumber(first);
      must(lines < 60, 11, node);
    }
    must(!Set.of("equals", "hashCode", "toString").contains(node.getName().toString()), 6, node);
    calls.computeIfAbsent(nameOf(getCurrentPath()), name -> new TreeSet<>());
    return super.visitMethod(node, nothing);
  }

  /** The enclosing method; a field's first value is made by the constructor. */
  private String inside() {
    TreePath path = getCurrentPath();
    while (path != null && !(path.getLeaf() instanceof MethodTree)) {
      TreePath parent = path.getParentPath();
      if (parent != null && parent.getLeaf() instanceof ClassTree) {
        return trees.getElement(parent) + ".<init>";
      }
      path = parent;
    }
    return path == null ? "" : nameOf(path);
  }

  private String nameOf(TreePath method) {
    Element element = trees.getElement(method);
    boolean isConstructor = element.getKind() == ElementKind.CONSTRUCTOR;
    return element.getEnclosingElement() + "." + (isConstructor ? "<init>" : element);
  }

  private void noteCall(Element called) {
    boolean isConstructor = called.getKind() == ElementKind.CONSTRUCTOR;
    String owner = String.valueOf(called.getEnclosingElement());
    String name = owner + "." + (isConstructor ? "<init>" : called);
    calls.computeIfAbsent(inside(), method -> new TreeSet<>()).add(name);
  }

  @Override
  public Void visitMethodInvocation(MethodInvocationTree node, Void nothing) {
    Element called = trees.getElement(getCurrentPath());
    String owner = called.getEnclosingElement().getSimpleName().toString();
    // The compiler finds some methods of StringBuilder in a class above it.
    String name = owner.replace("AbstractStringBuilder", "StringBuilder") + "." + called;
    boolean isOwn = called.getEnclosingElement().toString().startsWith("TypeWheelTelegraph");
    boolean isSuper = node.getMethodSelect().toString().equals("super");
    must(isOwn || isSuper || LIBRARY.contains(name), 4, node);
    if (!isSuper) {
      noteCall(called);
    }
    return super.visitMethodInvocation(node, nothing);
  }

  @Override
  public Void visitNewClass(NewClassTree node, Void nothing) {
    boolean isThrown = getCurrentPath().getParentPath().getLeaf() instanceof ThrowTree;
    must(node.getClassBody() == null, 2, node);
    must(isThrown || inside().endsWith("<init>"), 12, node);
    if (!isThrown) {
      noteCall(trees.getElement(getCurrentPath()));
      String made = node.getIdentifier().toString();
      boolean isOwn = trees.getElement(getCurrentPath()).toString().startsWith(made);
      must(isOwn, 4, node);
    }
    return super.visitNewClass(node, nothing);
  }

  @Override
  public Void visitNewArray(NewArrayTree node, Void nothing) {
    must(inside().endsWith("<init>") && node.getDimensions().size() == 1, 12, node);
    return super.visitNewArray(node, nothing);
  }

  @Override
  public Void visitThrow(ThrowTree node, Void nothing) {
    boolean isWritten =
        node.getExpression() instanceof NewClassTree made
            && EXCEPTIONS.contains(made.getIdentifier().toString())
            && made.getArguments().size() == 1
            && made.getArguments().get(0) instanceof LiteralTree;
    must(isWritten && !inside().endsWith("<init>"), 6, node);
    return super.visitThrow(node, nothing);
  }

  @Override
  public Void visitVariable(VariableTree node, Void nothing) {
    TypeMirror type = trees.getTypeMirror(new TreePath(getCurrentPath(), node.getType()));
    must(isAllowed(type), 3, node);
    return super.visitVariable(node, nothing);
  }

  private static boolean isAllowed(TypeMirror type) {
    String name = type.toString();
    boolean isText = name.equals("java.lang.String") || name.equals("java.lang.StringBuilder");
    boolean isOwn = name.matches("TypeWheelTelegraph\\..*|int\\[\\]");
    return type.getKind().isPrimitive() || isText || isOwn;
  }

  @Override
  public Void visitArrayType(ArrayTypeTree node, Void nothing) {
    must(!(node.getType() instanceof ArrayTypeTree), 3, node);
    return super.visitArrayType(node, nothing);
  }

  /** The method that uses an index asks for the length of that array. */
  @Override
  public Void visitArrayAccess(ArrayAccessTree node, Void nothing) {
    must(textOfMethod().contains(node.getExpression() + ".length"), 7, node);
    return super.visitArrayAccess(node, nothing);
  }

  private String textOfMethod() {
    TreePath path = getCurrentPath();
    while (path != null && !(path.getLeaf() instanceof MethodTree)) {
      path = path.getParentPath();
    }
    return path == null ? "" : path.getLeaf().toString();
  }

  @Override
  public Void visitBinary(BinaryTree node, Void nothing) {
    String type = String.valueOf(trees.getTypeMirror(getCurrentPath()));
    must(!type.equals("java.lang.String"), 10, node);
    if (node.getKind() == Tree.Kind.DIVIDE || node.getKind() == Tree.Kind.REMAINDER) {
      must(isSafeDivisor(node.getRightOperand()), 7, node);
    }
    return super.visitBinary(node, nothing);
  }

  @Override
  public Void visitCompoundAssignment(CompoundAssignmentTree node, Void nothing) {
    boolean divides =
        node.getKind() == Tree.Kind.DIVIDE_ASSIGNMENT
            || node.getKind() == Tree.Kind.REMAINDER_ASSIGNMENT;
    must(!divides, 7, node);
    return super.visitCompoundAssignment(node, nothing);
  }

  /** A constant is written in capitals; of another divisor the method asks whether it is 0. */
  private boolean isSafeDivisor(ExpressionTree divisor) {
    if (divisor instanceof LiteralTree literal) {
      return !String.valueOf(literal.getValue()).equals("0");
    }
    if (divisor instanceof IdentifierTree name && name.toString().matches("[A-Z_]+")) {
      return true;
    }
    String asked = divisor.toString().replaceAll("^\\(\\w+\\)", "");
    return textOfMethod().contains(asked + " > 0 ?")
        || textOfMethod().contains(asked + " == 0 ?");
  }

  /** Casts are those among numbers. */
  @Override
  public Void visitTypeCast(TypeCastTree node, Void nothing) {
    TypeMirror type = trees.getTypeMirror(getCurrentPath());
    must(type.getKind().isPrimitive() && type.getKind() != TypeKind.BOOLEAN, 6, node);
    return super.visitTypeCast(node, nothing);
  }

  @Override
  public Void visitTry(TryTree node, Void nothing) {
    fault(6, node);
    return null;
  }

  @Override
  public Void visitSynchronized(SynchronizedTree node, Void nothing) {
    fault(6, node);
    return null;
  }

  @Override
  public Void visitAssert(AssertTree node, Void nothing) {
    fault(6, node);
    return null;
  }

  @Override
  public Void visitLambdaExpression(LambdaExpressionTree node, Void nothing) {
    fault(2, node);
    return null;
  }

  @Override
  public Void visitMemberReference(MemberReferenceTree node, Void nothing) {
    fault(2, node);
    return null;
  }

  @Override
  public Void visitDoWhileLoop(DoWhileLoopTree node, Void nothing) {
    fault(9, node);
    return null;
  }
}
