import com.sun.source.tree.ClassTree;
import com.sun.source.tree.CompilationUnitTree;
import com.sun.source.tree.DoWhileLoopTree;
import com.sun.source.tree.ExpressionTree;
import com.sun.source.tree.ForLoopTree;
import com.sun.source.tree.MemberSelectTree;
import com.sun.source.tree.MethodInvocationTree;
import com.sun.source.tree.MethodTree;
import com.sun.source.tree.NewArrayTree;
import com.sun.source.tree.Tree;
import com.sun.source.tree.VariableTree;
import com.sun.source.tree.WhileLoopTree;
import com.sun.source.util.JavacTask;
import com.sun.source.util.TreePathScanner;
import com.sun.source.util.TreeScanner;
import com.sun.source.util.Trees;
import java.io.File;
import java.util.Arrays;
import java.util.EnumSet;
import java.util.HashMap;
import java.util.List;
import java.util.Map;
import java.util.Set;
import java.util.TreeSet;
import javax.lang.model.element.Modifier;
import javax.tools.JavaCompiler;
import javax.tools.StandardJavaFileManager;
import javax.tools.ToolProvider;

/** Those rules of LANGUAGE.md that can be read off the program's text. */
public final class LanguageTest {
  private static final String SOURCE = "src/main/java/OpenTypeSession.java";
  private static final List<String> FACE = Arrays.asList(
      "<init>", "token", "wipe", "declare", "place", "reset", "size", "node", "fits");
  private static final Set<Tree.Kind> FORBIDDEN = EnumSet.of(
      Tree.Kind.IMPORT, Tree.Kind.PACKAGE, Tree.Kind.INTERFACE, Tree.Kind.ENUM, Tree.Kind.RECORD,
      Tree.Kind.ANNOTATION_TYPE, Tree.Kind.NEW_CLASS, Tree.Kind.THROW,
      Tree.Kind.TRY, Tree.Kind.CATCH, Tree.Kind.SYNCHRONIZED, Tree.Kind.ASSERT,
      Tree.Kind.INSTANCE_OF, Tree.Kind.LAMBDA_EXPRESSION, Tree.Kind.MEMBER_REFERENCE,
      Tree.Kind.NULL_LITERAL, Tree.Kind.STRING_LITERAL, Tree.Kind.FLOAT_LITERAL,
      Tree.Kind.DOUBLE_LITERAL);
  private static final List<String> TYPES = Arrays.asList(
      "int", "long", "short", "byte", "char", "boolean", "int[]", "long[]", "short[]", "byte[]",
      "char[]", "boolean[]", "void", "null");

  private static final Map<String, Set<String>> CALLS = new HashMap<>();

  public static void main(String[] args) throws Exception {
    JavaCompiler compiler = ToolProvider.getSystemJavaCompiler();
    try (StandardJavaFileManager files = compiler.getStandardFileManager(null, null, null)) {
      JavacTask task = (JavacTask) compiler.getTask(null, files, null, null, null,
          files.getJavaFileObjects(new File(SOURCE)));
      CompilationUnitTree unit = task.parse().iterator().next();
      task.analyze();
      Checks.due("rule 1: classes in the file", unit.getTypeDecls().size(), 1);
      forbiddenTrees(unit);
      members((ClassTree) unit.getTypeDecls().get(0));
      methods(unit, Trees.instance(task));
    }
    for (String method : CALLS.keySet()) {
      int depth = depth(method, 0);
      Checks.due("rule 8 and 10: depth " + depth + " of calls from " + method, depth <= 6, true);
    }
    Checks.finish();
  }

  private static void forbiddenTrees(CompilationUnitTree unit) {
    new TreeScanner<Void, Void>() {
      @Override
      public Void scan(Tree tree, Void nothing) {
        if (tree != null && FORBIDDEN.contains(tree.getKind())) {
          Checks.due("rules 2 to 8: " + tree.getKind() + " " + tree, true, false);
        }
        return super.scan(tree, nothing);
      }

      @Override
      public Void visitMemberSelect(MemberSelectTree select, Void nothing) {
        Checks.due("rule 3: " + select, ("" + select).matches("this\\.\\w+|(this\\.)?\\w+\\.length"), true);
        return super.visitMemberSelect(select, nothing);
      }
    }.scan(unit, null);
  }

  private static void members(ClassTree session) {
    Checks.due("rule 1: the class", session.getModifiers().getFlags(),
        EnumSet.of(Modifier.PUBLIC, Modifier.FINAL));
    int fields = 0;
    for (Tree member : session.getMembers()) {
      if (member instanceof VariableTree) {
        VariableTree field = (VariableTree) member;
        Set<Modifier> flags = field.getModifiers().getFlags();
        boolean constant = flags.contains(Modifier.STATIC);
        fields += constant ? 0 : 1;
        Checks.due("rule 1: " + field.getName() + " is private or a constant",
            flags.contains(Modifier.PRIVATE) || constant && flags.contains(Modifier.PUBLIC), true);
        Checks.due("rule 4: no method assigns to " + field.getName(),
            flags.contains(Modifier.FINAL) || !("" + field.getType()).endsWith("[]"), true);
        Checks.due("rule 5: " + field.getName(),
            !constant || flags.contains(Modifier.FINAL) && ("" + field.getType()).matches("int|long"),
            true);
      } else if (member instanceof MethodTree) {
        MethodTree method = (MethodTree) member;
        String name = method.getName().toString();
        Checks.due("rule 1: who sees " + name, method.getModifiers().getFlags().contains(
            FACE.contains(name) ? Modifier.PUBLIC : Modifier.PRIVATE), true);
        Checks.due("rules 2 and 4: what " + name + " answers",
            ("" + method.getReturnType()).matches("null|void|int|long|short|byte|char|boolean"), true);
        Checks.due("rule 10: parameters of " + name, method.getParameters().size() <= 7, true);
      } else {
        Checks.due("rule 1: member " + member, true, false);
      }
    }
    Checks.due("rule 10: some forty fields, not " + fields, fields <= 42, true);
  }

  private static void methods(CompilationUnitTree unit, Trees trees) {
    new TreePathScanner<Void, String>() {
      @Override
      public Void visitMethod(MethodTree method, String outer) {
        String name = method.getName().toString();
        CALLS.putIfAbsent(name, new TreeSet<>());
        long from = trees.getSourcePositions().getStartPosition(unit, method);
        long to = trees.getSourcePositions().getEndPosition(unit, method);
        long lines = unit.getLineMap().getLineNumber(to) - unit.getLineMap().getLineNumber(from) + 1;
        Checks.due("rule 10: lines of " + name + ", " + lines, lines <= 60, true);
        return super.visitMethod(method, name);
      }

      @Override
      public Void visitMethodInvocation(MethodInvocationTree call, String method) {
        CALLS.get(method).add(call.getMethodSelect().toString());
        for (ExpressionTree argument : call.getArguments()) {
          noCall(argument);
        }
        return super.visitMethodInvocation(call, method);
      }

      @Override
      public Void visitNewArray(NewArrayTree array, String method) {
        Checks.due("rule 4: an array made in a method: " + method,
            method == null || method.equals("<init>"), true);
        Checks.due("rule 4: one dimension, a literal or a constant, in " + array,
            ("" + array.getDimensions()).matches("[1-9]\\d*|[A-Z][A-Z_]*"), true);
        return super.visitNewArray(array, method);
      }

      @Override
      public Void visitVariable(VariableTree variable, String method) {
        Checks.due("rule 2: type of " + variable, TYPES.contains("" + variable.getType()), true);
        return super.visitVariable(variable, method);
      }

      @Override
      public Void visitForLoop(ForLoopTree loop, String method) {
        hasBound(loop.getCondition(), method);
        return super.visitForLoop(loop, method);
      }

      @Override
      public Void visitWhileLoop(WhileLoopTree loop, String method) {
        hasBound(loop.getCondition(), method);
        return super.visitWhileLoop(loop, method);
      }

      @Override
      public Void visitDoWhileLoop(DoWhileLoopTree loop, String method) {
        hasBound(loop.getCondition(), method);
        return super.visitDoWhileLoop(loop, method);
      }
    }.scan(unit, null);
  }

  private static void hasBound(ExpressionTree condition, String method) {
    Checks.due("rule 8: a loop without a bound in " + method,
        ("" + condition).matches(".*(<|<=|>=|>) .*"), true);
  }

  private static void noCall(Tree argument) {
    new TreeScanner<Void, Void>() {
      @Override
      public Void visitMethodInvocation(MethodInvocationTree call, Void nothing) {
        Checks.due("rule 10: a call inside the arguments of another: " + call, true, false);
        return null;
      }
    }.scan(argument, null);
  }

  /** The greatest number of calls under way, this one among them; a recursion is too deep. */
  private static int depth(String method, int above) {
    if (!CALLS.containsKey(method)) {
      if (!method.equals("super")) {
        Checks.due("rule 3: a call of " + method, true, false);
      }
      return 0;
    }
    int deepest = 0;
    for (String called : CALLS.get(method)) {
      deepest = Math.max(deepest, above > 20 ? 20 : depth(called, above + 1));
    }
    return deepest + 1;
  }
}
