import com.sun.source.tree.AssertTree;
import com.sun.source.tree.ClassTree;
import com.sun.source.tree.CompilationUnitTree;
import com.sun.source.tree.IdentifierTree;
import com.sun.source.tree.ImportTree;
import com.sun.source.tree.LambdaExpressionTree;
import com.sun.source.tree.LineMap;
import com.sun.source.tree.MemberReferenceTree;
import com.sun.source.tree.MemberSelectTree;
import com.sun.source.tree.MethodInvocationTree;
import com.sun.source.tree.MethodTree;
import com.sun.source.tree.NewClassTree;
import com.sun.source.tree.SynchronizedTree;
import com.sun.source.tree.ThrowTree;
import com.sun.source.tree.Tree;
import com.sun.source.tree.TryTree;
import com.sun.source.tree.VariableTree;
import com.sun.source.util.JavacTask;
import com.sun.source.util.SourcePositions;
import com.sun.source.util.TreeScanner;
import com.sun.source.util.Trees;
import java.io.IOException;
import java.nio.file.Path;
import java.util.HashMap;
import java.util.List;
import java.util.Map;
import java.util.Set;
import java.util.TreeSet;
import javax.lang.model.element.Modifier;
import javax.tools.JavaCompiler;
import javax.tools.StandardJavaFileManager;
import javax.tools.ToolProvider;

/** What of LANGUAGE.md can be seen in the program's text. */
public final class RulesTest {
    private static final String PROGRAM = "src/main/java/MagnetRows.java";
    private static final Set<String> LIBRARY = Set.of("Arrays.fill", "Arrays.copyOf", "Arrays.copyOfRange",
        "System.arraycopy", "Integer.bitCount", "Math.abs", "Math.min", "Math.max", "Math.floorMod", "Math.floorDiv");
    private static final Set<String> LIBRARY_CLASSES = Set.of("Arrays", "System", "Integer", "Long", "Math", "String",
        "List", "Character", "Byte", "Short", "Double", "Objects");
    private static int wrong = 0;
    private static int looked = 0;

    public static void main(String[] args) throws IOException {
        JavaCompiler compiler = ToolProvider.getSystemJavaCompiler();
        try (StandardJavaFileManager files = compiler.getStandardFileManager(null, null, null)) {
            JavacTask task = (JavacTask) compiler.getTask(null, files, null, null, null,
                files.getJavaFileObjects(Path.of(PROGRAM)));
            for (CompilationUnitTree unit : task.parse()) {
                new Looker(unit, Trees.instance(task).getSourcePositions()).scan(unit, null);
            }
        }
        System.out.println(looked + " places looked at, " + wrong + " against a rule");
        System.exit(wrong == 0 && looked > 0 ? 0 : 1);
    }

    private static void rule(int number, boolean kept, String what) {
        looked++;
        if (!kept) {
            wrong++;
            System.out.println("rule " + number + ": " + what);
        }
    }

    private static final class Looker extends TreeScanner<Void, Void> {
        private final CompilationUnitTree unit;
        private final SourcePositions places;
        private final Map<String, Set<String>> calls = new HashMap<>();
        private final Set<String> publicNames = new TreeSet<>();
        private int classes = 0;
        private String method = "";

        Looker(CompilationUnitTree unit, SourcePositions places) {
            this.unit = unit;
            this.places = places;
        }

        @Override
        public Void visitCompilationUnit(CompilationUnitTree node, Void none) {
            rule(1, node.getPackageName() == null && node.getTypeDecls().size() == 1, "one class, no package");
            for (Tree member : ((ClassTree) node.getTypeDecls().get(0)).getMembers()) {
                if (member instanceof MethodTree one && one.getModifiers().getFlags().contains(Modifier.PUBLIC)) {
                    publicNames.add(one.getName().toString());
                }
            }
            super.visitCompilationUnit(node, none);
            rule(11, classes <= 12, classes + " classes");
            for (String one : calls.keySet()) {
                int deep = depth(one, 0);
                rule(11, deep <= 8, one + " goes " + deep + " deep");
            }
            return null;
        }

        @Override
        public Void visitImport(ImportTree node, Void none) {
            rule(4, node.getQualifiedIdentifier().toString().equals("java.util.Arrays"), node.toString());
            return super.visitImport(node, none);
        }

        @Override
        public Void visitClass(ClassTree node, Void none) {
            classes++;
            Set<Modifier> flags = node.getModifiers().getFlags();
            boolean face = node.getSimpleName().contentEquals("MagnetRows");
            rule(2, face || flags.contains(Modifier.STATIC), node.getSimpleName() + " is static");
            rule(1, face || !flags.contains(Modifier.PUBLIC) && !flags.contains(Modifier.PROTECTED),
                node.getSimpleName() + " is not to be seen");
            int fields = 0;
            for (Tree member : node.getMembers()) {
                if (member instanceof VariableTree field) {
                    boolean fixed = field.getModifiers().getFlags().contains(Modifier.STATIC);
                    fields += fixed ? 0 : 1;
                    rule(5, !fixed || field.getModifiers().getFlags().contains(Modifier.FINAL)
                        && List.of("int", "long", "boolean").contains(field.getType().toString()), field.toString());
                }
                rule(5, member.getKind() != Tree.Kind.BLOCK, "no block of a class");
            }
            rule(11, fields <= 20, node.getSimpleName() + " has " + fields + " fields");
            return super.visitClass(node, none);
        }

        @Override
        public Void visitMethod(MethodTree node, Void none) {
            String name = node.getName().toString();
            boolean open = node.getModifiers().getFlags().contains(Modifier.PUBLIC);
            rule(1, open || name.equals("<init>") || !publicNames.contains(name), name + " bears a public name");
            rule(11, node.getParameters().size() <= 7, name + " takes too many");
            LineMap lines = unit.getLineMap();
            long length = lines.getLineNumber(places.getEndPosition(unit, node))
                - lines.getLineNumber(places.getStartPosition(unit, node)) + 1;
            rule(11, length <= 60, name + " has " + length + " lines");
            rule(2, node.getModifiers().getAnnotations().isEmpty(), name + " has an annotation");
            method = name;
            calls.computeIfAbsent(name, key -> new TreeSet<>());
            return super.visitMethod(node, none);
        }

        @Override
        public Void visitMethodInvocation(MethodInvocationTree node, Void none) {
            if (node.getMethodSelect() instanceof IdentifierTree plain && !plain.getName().contentEquals("super")) {
                calls.get(method).add(plain.getName().toString());
            } else if (node.getMethodSelect() instanceof MemberSelectTree chosen) {
                String of = chosen.getExpression().toString();
                rule(4, !LIBRARY_CLASSES.contains(of) || LIBRARY.contains(chosen.toString()), chosen.toString());
                // A body above the same one, by super: it is no recursion.
                calls.get(method).add(of.equals("super") ? "super" : chosen.getIdentifier().toString());
            }
            return super.visitMethodInvocation(node, none);
        }

        /** How many calls stand open at once at most: by names alone. */
        private int depth(String name, int above) {
            if (above > 40) {
                return above;
            }
            int deepest = 0;
            for (String next : calls.getOrDefault(name, Set.of())) {
                deepest = Math.max(deepest, depth(next, above + 1));
            }
            return deepest + 1;
        }

        @Override
        public Void visitNewClass(NewClassTree node, Void none) {
            rule(2, node.getClassBody() == null, "a class without a name");
            return super.visitNewClass(node, none);
        }

        @Override
        public Void visitThrow(ThrowTree node, Void none) {
            rule(6, false, node.toString());
            return null;
        }

        @Override
        public Void visitTry(TryTree node, Void none) {
            rule(6, false, node.toString());
            return null;
        }

        @Override
        public Void visitSynchronized(SynchronizedTree node, Void none) {
            rule(6, false, node.toString());
            return null;
        }

        @Override
        public Void visitAssert(AssertTree node, Void none) {
            rule(6, false, node.toString());
            return null;
        }

        @Override
        public Void visitLambdaExpression(LambdaExpressionTree node, Void none) {
            rule(2, false, node.toString());
            return null;
        }

        @Override
        public Void visitMemberReference(MemberReferenceTree node, Void none) {
            rule(2, false, node.toString());
            return null;
        }
    }
}
