import com.sun.source.tree.CatchTree;
import com.sun.source.tree.ClassTree;
import com.sun.source.tree.CompilationUnitTree;
import com.sun.source.tree.ImportTree;
import com.sun.source.tree.LambdaExpressionTree;
import com.sun.source.tree.MemberReferenceTree;
import com.sun.source.tree.MethodTree;
import com.sun.source.tree.Tree;
import com.sun.source.tree.VariableTree;
import com.sun.source.util.JavacTask;
import com.sun.source.util.SourcePositions;
import com.sun.source.util.TreeScanner;
import com.sun.source.util.Trees;
import java.nio.file.Path;
import java.util.List;
import javax.lang.model.element.Modifier;
import javax.tools.JavaCompiler;
import javax.tools.StandardJavaFileManager;
import javax.tools.ToolProvider;

/** The rules of LANGUAGE.md that can be counted in the source. */
final class LanguageTest {
    private static final Due due = new Due("LanguageTest");
    private static final Path SOURCE = Path.of("src/main/java/EffectNodes.java");

    private static CompilationUnitTree unit;
    private static SourcePositions positions;
    private static int classes = 0;

    public static void main(String[] args) throws Exception {
        JavaCompiler compiler = ToolProvider.getSystemJavaCompiler();
        try (StandardJavaFileManager files = compiler.getStandardFileManager(null, null, null)) {
            JavacTask task = (JavacTask) compiler.getTask(null, files, null, List.of("-proc:none"), null,
                    files.getJavaFileObjects(SOURCE));
            unit = task.parse().iterator().next();
            positions = Trees.instance(task).getSourcePositions();
            new Rules().scan(unit, null);
        }
        due.is("more than 12 classes: " + classes, false, () -> classes > 12);
        due.end();
    }

    private static long linesOf(Tree tree) {
        return unit.getLineMap().getLineNumber(positions.getEndPosition(unit, tree))
                - unit.getLineMap().getLineNumber(positions.getStartPosition(unit, tree)) + 1;
    }

    private static final class Rules extends TreeScanner<Void, Void> {
        @Override
        public Void visitImport(ImportTree tree, Void none) {
            String name = tree.getQualifiedIdentifier().toString();
            due.is("import " + name, true, () -> List.of("java.util.ArrayList", "java.util.Arrays").contains(name));
            return super.visitImport(tree, none);
        }

        @Override
        public Void visitClass(ClassTree tree, Void none) {
            classes++;
            int fields = 0;
            for (Tree member : tree.getMembers()) {
                if (member instanceof VariableTree field) {
                    boolean isStatic = field.getModifiers().getFlags().contains(Modifier.STATIC);
                    fields += isStatic ? 0 : 1;
                    due.is(field + " is static and final, or neither", true,
                            () -> !isStatic || field.getModifiers().getFlags().contains(Modifier.FINAL));
                }
            }
            int all = fields;
            due.is(tree.getSimpleName() + " has more than 20 fields: " + all, false, () -> all > 20);
            return super.visitClass(tree, none);
        }

        @Override
        public Void visitMethod(MethodTree tree, Void none) {
            long lines = linesOf(tree);
            due.is(tree.getName() + " has more than 60 lines: " + lines, false, () -> lines > 60);
            due.is(tree.getName() + " has more than 7 parameters", false, () -> tree.getParameters().size() > 7);
            return super.visitMethod(tree, none);
        }

        @Override
        public Void visitLambdaExpression(LambdaExpressionTree tree, Void none) {
            due.is("a lambda", "none", () -> tree);
            return null;
        }

        @Override
        public Void visitMemberReference(MemberReferenceTree tree, Void none) {
            due.is("a method reference", "none", () -> tree);
            return null;
        }

        @Override
        public Void visitCatch(CatchTree tree, Void none) {
            due.is("a catch", "none", () -> tree);
            return null;
        }
    }
}
