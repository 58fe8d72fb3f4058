import com.sun.source.tree.AssertTree;
import com.sun.source.tree.BinaryTree;
import com.sun.source.tree.BlockTree;
import com.sun.source.tree.ClassTree;
import com.sun.source.tree.CompilationUnitTree;
import com.sun.source.tree.CompoundAssignmentTree;
import com.sun.source.tree.ForLoopTree;
import com.sun.source.tree.IdentifierTree;
import com.sun.source.tree.LambdaExpressionTree;
import com.sun.source.tree.LiteralTree;
import com.sun.source.tree.MemberReferenceTree;
import com.sun.source.tree.MemberSelectTree;
import com.sun.source.tree.MethodTree;
import com.sun.source.tree.NewArrayTree;
import com.sun.source.tree.NewClassTree;
import com.sun.source.tree.SynchronizedTree;
import com.sun.source.tree.ThrowTree;
import com.sun.source.tree.Tree;
import com.sun.source.tree.TryTree;
import com.sun.source.tree.TypeCastTree;
import com.sun.source.tree.VariableTree;
import com.sun.source.tree.WhileLoopTree;
import com.sun.source.util.JavacTask;
import com.sun.source.util.SourcePositions;
import com.sun.source.util.TreePath;
import com.sun.source.util.TreePathScanner;
import com.sun.source.util.Trees;
import java.io.IOException;
import java.nio.file.Path;
import java.util.ArrayList;
import java.util.HashMap;
import java.util.List;
import java.util.Map;
import java.util.Set;
import java.util.TreeMap;
import java.util.TreeSet;
import javax.lang.model.element.Element;
import javax.lang.model.element.ElementKind;
import javax.lang.model.element.ExecutableElement;
import javax.lang.model.element.Modifier;
import javax.lang.model.type.TypeMirror;
import javax.tools.JavaCompiler;
import javax.tools.StandardJavaFileManager;
import javax.tools.ToolProvider;

/**
 * The rules of LANGUAGE.md that can be seen in a tree of the file, each named by its number; what the class
 * uses today is taken, and what the rules would leave beyond that has to be written in here first.
 */
public final class LanguageTest {
    private static final String SOURCE = "src/main/java/SilenceCoin.java";
    private static final String OWN = "SilenceCoin";
    private static final int MOST_LINES = 60, MOST_PARAMETERS = 7, MOST_CLASSES = 12, MOST_FIELDS = 20, DEEPEST = 8;
    private static final Set<String> LIBRARY = Set.of("String.length", "String.charAt", "String.isEmpty",
        "String.equals", "String.substring", "String.toCharArray", "Math.max", "Math.min", "Math.abs",
        "Math.floorDiv", "Math.floorMod", "Integer.bitCount", "Integer.compare", "Long.compare", "System.arraycopy");
    private static final Set<String> VALUES = Set.of("int", "long", "short", "byte", "char", "boolean");
    private static final Set<String> CONSTANTS = Set.of("int", "long", "boolean", "char", "java.lang.String",
        "int[]", "long[]", "char[]", "byte[]");

    private static int wrong = 0;

    private static void due(boolean is, int rule, String what) {
        if (!is) {
            wrong++;
            System.out.println("rule " + rule + ": " + what);
        }
    }

    public static void main(String[] args) throws IOException {
        JavaCompiler compiler = ToolProvider.getSystemJavaCompiler();
        try (StandardJavaFileManager files = compiler.getStandardFileManager(null, null, null)) {
            JavacTask task = (JavacTask) compiler.getTask(null, files, null, List.of("--release", "17", "-proc:none"), null,
                files.getJavaFileObjects(Path.of(SOURCE)));
            Reader reader = new Reader(Trees.instance(task));
            List<CompilationUnitTree> units = new ArrayList<>();
            task.parse().forEach(units::add);
            task.analyze();
            for (CompilationUnitTree unit : units) {
                due(unit.getPackageName() == null, 1, "a package line");
                due(unit.getTypeDecls().size() == 1, 1, "one class in the file");
                reader.scan(unit, null);
            }
            reader.close();
        }
        System.out.println(wrong == 0 ? "the language is as told" : wrong + " faults of the language");
        if (wrong != 0) {
            System.exit(1);
        }
    }

    private static final class Reader extends TreePathScanner<Void, Void> {
        private final Trees trees;
        private final SourcePositions positions;
        private final Map<String, Set<String>> calls = new TreeMap<>();
        private final Map<String, Integer> depths = new HashMap<>();
        private final Set<String> open = new TreeSet<>();
        private int classes = 0;
        private String method = "";
        private boolean isMaking = false;

        Reader(Trees trees) {
            this.trees = trees;
            this.positions = trees.getSourcePositions();
        }

        private String at(Tree t) {
            CompilationUnitTree unit = getCurrentPath().getCompilationUnit();
            long line = unit.getLineMap().getLineNumber(positions.getStartPosition(unit, t));
            return "line " + line + ": " + t.toString().lines().findFirst().orElse("");
        }

        private static boolean isOwn(String type) {
            return type.equals(OWN) || type.startsWith(OWN + ".");
        }

        private static boolean isTaken(String type) {
            if (type.endsWith("[][]")) {
                return VALUES.contains(type.substring(0, type.length() - 4)) && !type.startsWith("boolean");
            }
            String single = type.endsWith("[]") ? type.substring(0, type.length() - 2) : type;
            return VALUES.contains(single) || isOwn(single) || type.equals("java.lang.String");
        }

        @Override
        public Void visitClass(ClassTree c, Void v) {
            classes++;
            boolean isInside = getCurrentPath().getParentPath().getLeaf() instanceof ClassTree;
            boolean isOuter = getCurrentPath().getParentPath().getLeaf() instanceof CompilationUnitTree;
            Set<Modifier> flags = c.getModifiers().getFlags();
            due(isInside || isOuter, 2, "a class inside a method, " + at(c));
            due(isOuter || flags.contains(Modifier.STATIC), 2, "a class that isn't static, " + at(c));
            due(isOuter || !flags.contains(Modifier.PUBLIC) && !flags.contains(Modifier.PROTECTED), 1, at(c));
            int fields = 0;
            for (Tree member : c.getMembers()) {
                boolean isField = member instanceof VariableTree;
                fields += isField && !((VariableTree) member).getModifiers().getFlags().contains(Modifier.STATIC) ? 1 : 0;
                due(!(member instanceof BlockTree), 5, "an initialiser block, " + at(member));
            }
            due(fields <= MOST_FIELDS, 11, fields + " fields, " + c.getSimpleName());
            return super.visitClass(c, v);
        }

        @Override
        public Void visitMethod(MethodTree m, Void v) {
            CompilationUnitTree unit = getCurrentPath().getCompilationUnit();
            ExecutableElement e = (ExecutableElement) trees.getElement(getCurrentPath());
            long from = unit.getLineMap().getLineNumber(positions.getStartPosition(unit, m));
            long to = unit.getLineMap().getLineNumber(Math.max(0, positions.getEndPosition(unit, m)));
            due(to - from < MOST_LINES, 11, (to - from + 1) + " lines, " + at(m));
            due(m.getParameters().size() <= MOST_PARAMETERS, 11, "parameters, " + at(m));
            due(m.getThrows().isEmpty(), 6, "throws, " + at(m));
            String type = e.getReturnType().toString();
            due(type.equals("void") || isTaken(type), 3, type + ", " + at(m));
            String outer = method;
            boolean was = isMaking;
            method = name(e);
            isMaking = e.getKind() == ElementKind.CONSTRUCTOR;
            calls.putIfAbsent(method, new TreeSet<>());
            super.visitMethod(m, v);
            method = outer;
            isMaking = was;
            return null;
        }

        private static String name(ExecutableElement e) {
            return e.getEnclosingElement() + "." + e;
        }

        @Override
        public Void visitVariable(VariableTree x, Void v) {
            Element e = trees.getElement(getCurrentPath());
            String type = e.asType().toString();
            Set<Modifier> flags = x.getModifiers().getFlags();
            due(isTaken(type), 3, type + ", " + at(x));
            if (e.getKind() == ElementKind.FIELD && flags.contains(Modifier.STATIC)) {
                due(flags.contains(Modifier.FINAL) && CONSTANTS.contains(type), 5, at(x));
            }
            boolean was = isMaking;
            isMaking |= e.getKind() == ElementKind.FIELD;
            super.visitVariable(x, v);
            isMaking = was;
            return null;
        }

        private void used(Tree t) {
            Element e = trees.getElement(getCurrentPath());
            if (e == null || e.getEnclosingElement() == null) {
                return;
            }
            String owner = e.getEnclosingElement().toString();
            if (e instanceof ExecutableElement called) {
                if (isOwn(owner)) {
                    calls.computeIfAbsent(method, k -> new TreeSet<>()).add(name(called));
                } else {
                    String full = e.getEnclosingElement().getSimpleName() + "." + e.getSimpleName();
                    boolean isRoot = full.equals("Object.<init>");
                    due(isRoot || owner.startsWith("java.lang.") && LIBRARY.contains(full), 4, full + ", " + at(t));
                }
            } else if (e.getKind() == ElementKind.FIELD) {
                boolean isLength = e.getSimpleName().contentEquals("length");
                boolean isWord = e.getSimpleName().contentEquals("this") || e.getSimpleName().contentEquals("super");
                due(isOwn(owner) || isLength || isWord, 4, "a field of the library, " + at(t));
            }
        }

        @Override
        public Void visitIdentifier(IdentifierTree t, Void v) {
            used(t);
            return super.visitIdentifier(t, v);
        }

        @Override
        public Void visitMemberSelect(MemberSelectTree t, Void v) {
            used(t);
            return super.visitMemberSelect(t, v);
        }

        @Override
        public Void visitNewClass(NewClassTree t, Void v) {
            due(t.getClassBody() == null, 2, "a class without a name, " + at(t));
            due(isMaking, 12, "made in a call, " + at(t));
            used(t);
            return super.visitNewClass(t, v);
        }

        @Override
        public Void visitNewArray(NewArrayTree t, Void v) {
            due(isMaking, 12, "made in a call, " + at(t));
            return super.visitNewArray(t, v);
        }

        @Override
        public Void visitLambdaExpression(LambdaExpressionTree t, Void v) {
            due(false, 2, at(t));
            return super.visitLambdaExpression(t, v);
        }

        @Override
        public Void visitMemberReference(MemberReferenceTree t, Void v) {
            due(false, 2, at(t));
            return super.visitMemberReference(t, v);
        }

        @Override
        public Void visitThrow(ThrowTree t, Void v) {
            due(false, 6, at(t));
            return super.visitThrow(t, v);
        }

        @Override
        public Void visitTry(TryTree t, Void v) {
            due(false, 6, at(t));
            return super.visitTry(t, v);
        }

        @Override
        public Void visitSynchronized(SynchronizedTree t, Void v) {
            due(false, 6, at(t));
            return super.visitSynchronized(t, v);
        }

        @Override
        public Void visitAssert(AssertTree t, Void v) {
            due(false, 6, at(t));
            return super.visitAssert(t, v);
        }

        @Override
        public Void visitTypeCast(TypeCastTree t, Void v) {
            TypeMirror to = trees.getTypeMirror(new TreePath(getCurrentPath(), t.getType()));
            due(to.getKind().isPrimitive(), 6, "a cast of an object, " + at(t));
            return super.visitTypeCast(t, v);
        }

        private boolean isText(Tree t) {
            TypeMirror type = trees.getTypeMirror(new TreePath(getCurrentPath(), t));
            return type != null && type.toString().equals("java.lang.String");
        }

        @Override
        public Void visitBinary(BinaryTree t, Void v) {
            due(!isText(t.getLeftOperand()) && !isText(t.getRightOperand()), 10, "texts joined or compared, " + at(t));
            return super.visitBinary(t, v);
        }

        @Override
        public Void visitCompoundAssignment(CompoundAssignmentTree t, Void v) {
            due(!isText(t.getVariable()), 10, "texts joined, " + at(t));
            return super.visitCompoundAssignment(t, v);
        }

        @Override
        public Void visitForLoop(ForLoopTree t, Void v) {
            due(t.getCondition() != null && t.getUpdate().size() == 1, 9, "a loop without a counter, " + at(t));
            return super.visitForLoop(t, v);
        }

        @Override
        public Void visitWhileLoop(WhileLoopTree t, Void v) {
            due(t.getCondition().toString().contains("<"), 9, "a loop without a bound, " + at(t));
            return super.visitWhileLoop(t, v);
        }

        @Override
        public Void visitLiteral(LiteralTree t, Void v) {
            if (t.getValue() instanceof String s) {
                due(s.chars().allMatch(c -> c >= 1 && c <= 127), 4, "a sign beyond 127, " + at(t));
            }
            return super.visitLiteral(t, v);
        }

        /** How deep calls go below a method; a chain that comes back to itself is a recursion and counts once. */
        private int depth(String of) {
            Integer known = depths.get(of);
            if (known != null) {
                return known;
            }
            open.add(of);
            int deepest = 0;
            for (String called : calls.getOrDefault(of, Set.of())) {
                boolean isRound = open.contains(called);
                due(!isRound || called.equals(of), 8, called + " and " + of + " call one another");
                deepest = isRound ? deepest : Math.max(deepest, depth(called));
            }
            open.remove(of);
            depths.put(of, deepest + 1);
            return deepest + 1;
        }

        void close() {
            due(classes - 1 <= MOST_CLASSES, 11, classes + " classes");
            Set<String> rounds = new TreeSet<>();
            for (String of : calls.keySet()) {
                due(depth(of) <= DEEPEST, 11, of + " goes " + depth(of) + " deep");
                if (calls.get(of).contains(of)) {
                    rounds.add(of);
                }
            }
            // its depth is the coin's number, which it looks at: six at most
            due(rounds.equals(Set.of("SilenceCoin.Funeral.giveFrom(int,int)")), 8, "recursions: " + rounds);
        }
    }
}
