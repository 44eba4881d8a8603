import com.sun.source.tree.*;
import com.sun.source.util.JavacTask;
import com.sun.source.util.TreeScanner;
import java.lang.management.ManagementFactory;
import java.lang.reflect.Method;
import java.lang.reflect.Modifier;
import java.nio.charset.StandardCharsets;
import java.nio.file.Files;
import java.nio.file.Path;
import java.util.HashSet;
import java.util.Set;
import java.util.TreeSet;
import javax.tools.JavaCompiler;
import javax.tools.JavaFileObject;
import javax.tools.StandardJavaFileManager;
import javax.tools.ToolProvider;

/** The rules of LANGUAGE.md that the source shows, and that no call makes an object. Run where src/ is. */
public final class RulesTest {
    private static final Path SOURCE = Path.of("src/main/java/PowerClasses.java");
    private static final Set<String> FACE = Set.of("field", "told", "generator", "use", "power", "classOf", "member", "beside",
        "meets", "times", "opposite", "around", "solved", "polynomial", "roots", "put", "of", "whole", "period", "add", "less",
        "product", "raise", "turn", "norm", "trace", "isWhole", "alike", "why", "feed", "wipe", "read", "list", "lay", "get",
        "film", "judge", "image", "undo", "count");
    private static final Set<String> CONSTANTS = Set.of("NONE", "BAD", "STATE", "FULL", "NOT", "OVER", "MISSING", "PLACE", "BELOW", "VOID");
    /** What the program takes of the library. */
    private static final Set<String> LIBRARY = Set.of("Math.floorMod", "Long.MIN_VALUE");

    private static final Checks checks = new Checks("RulesTest");

    public static void main(String[] args) throws Exception {
        theFace();
        theSource();
        theRoom();
        checks.finish();
    }

    private static void theFace() {
        checks.begin("rule 1");
        Set<String> methods = new TreeSet<>();
        for (Method method : PowerClasses.class.getDeclaredMethods()) {
            if (Modifier.isPrivate(method.getModifiers())) {
                checks.holds("private " + method.getName() + " bears a public name", !FACE.contains(method.getName()));
            } else {
                methods.add(method.getName());
                checks.holds(method.getName() + " is not public", Modifier.isPublic(method.getModifiers()));
                checks.holds(method.getName() + " is static", !Modifier.isStatic(method.getModifiers()));
            }
        }
        checks.holds("the methods are " + methods, methods.equals(new TreeSet<>(FACE)));
        Set<String> fields = new TreeSet<>();
        for (var field : PowerClasses.class.getDeclaredFields()) {
            if (!Modifier.isPrivate(field.getModifiers())) fields.add(field.getName());
        }
        checks.holds("the constants are " + fields, fields.equals(new TreeSet<>(CONSTANTS)));
        checks.same("constructors", PowerClasses.class.getDeclaredConstructors().length, 1);
        checks.holds("final", Modifier.isFinal(PowerClasses.class.getModifiers()));
        for (Class<?> inside : PowerClasses.class.getDeclaredClasses()) {
            checks.holds(inside + " is not static or is public", Modifier.isStatic(inside.getModifiers()) && !Modifier.isPublic(inside.getModifiers()));
            for (Method method : inside.getDeclaredMethods()) {
                checks.holds(inside + " has the public name " + method.getName(), !FACE.contains(method.getName()));
            }
        }
    }

    private static void theSource() throws Exception {
        String text = Files.readString(SOURCE, StandardCharsets.UTF_8);
        checks.begin("source");
        for (int i = 0; i < text.length(); i++) {
            if (text.charAt(i) > 126) checks.holds("sign " + (int) text.charAt(i) + " at " + i, false);
        }
        JavaCompiler compiler = ToolProvider.getSystemJavaCompiler();
        try (StandardJavaFileManager files = compiler.getStandardFileManager(null, null, null)) {
            Iterable<? extends JavaFileObject> units = files.getJavaFileObjects(SOURCE);
            JavacTask task = (JavacTask) compiler.getTask(null, files, null, null, null, units);
            for (CompilationUnitTree unit : task.parse()) {
                checks.same("imports", unit.getImports().size(), 0);
                checks.same("classes beside", unit.getTypeDecls().size(), 1);
                new Looker(unit.getLineMap(), task, unit).scan(unit, null);
            }
        }
    }

    /** Looks at each place of the source. */
    private static final class Looker extends TreeScanner<Void, Void> {
        private final LineMap lines;
        private final com.sun.source.util.SourcePositions positions;
        private final CompilationUnitTree unit;
        private final Set<String> classNames = new HashSet<>();
        private String method = "";

        Looker(LineMap lines, JavacTask task, CompilationUnitTree unit) {
            this.lines = lines;
            this.positions = com.sun.source.util.Trees.instance(task).getSourcePositions();
            this.unit = unit;
        }

        private String at(Tree tree) {
            return "line " + lines.getLineNumber(positions.getStartPosition(unit, tree));
        }

        private void never(Tree tree) {
            checks.holds(at(tree) + ": " + tree.getKind(), false);
        }

        @Override public Void visitClass(ClassTree tree, Void none) {
            classNames.add(tree.getSimpleName().toString());
            checks.holds(at(tree) + ": too many classes", classNames.size() <= 12);
            int fields = 0;
            for (Tree member : tree.getMembers()) {
                if (member instanceof BlockTree) never(member);
                if (!(member instanceof VariableTree)) continue;
                var flags = ((VariableTree) member).getModifiers().getFlags();
                boolean isStatic = flags.contains(javax.lang.model.element.Modifier.STATIC);
                if (isStatic) checks.holds(at(member) + ": static and not final", flags.contains(javax.lang.model.element.Modifier.FINAL));
                else fields++;
            }
            checks.holds(at(tree) + ": " + fields + " fields", fields <= 20);
            return super.visitClass(tree, none);
        }

        @Override public Void visitMethod(MethodTree tree, Void none) {
            long first = lines.getLineNumber(positions.getStartPosition(unit, tree));
            long last = lines.getLineNumber(positions.getEndPosition(unit, tree));
            checks.holds(at(tree) + ": " + (last - first + 1) + " lines", last - first + 1 <= 60);
            checks.holds(at(tree) + ": too many parameters", tree.getParameters().size() <= 7);
            String before = method;
            method = tree.getName().toString();
            super.visitMethod(tree, none);
            method = before;
            return null;
        }

        @Override public Void visitNewArray(NewArrayTree tree, Void none) {
            checks.holds(at(tree) + ": an array made in " + method, method.isEmpty() || method.equals("<init>"));
            return super.visitNewArray(tree, none);
        }

        @Override public Void visitNewClass(NewClassTree tree, Void none) {
            checks.holds(at(tree) + ": an object made in " + method, method.isEmpty() || method.equals("<init>"));
            return super.visitNewClass(tree, none);
        }

        @Override public Void visitMemberSelect(MemberSelectTree tree, Void none) {
            String left = tree.getExpression().toString();
            if (!left.isEmpty() && Character.isUpperCase(left.charAt(0)) && !classNames.contains(left)) {
                checks.holds(at(tree) + ": " + tree, LIBRARY.contains(tree.toString()));
            }
            return super.visitMemberSelect(tree, none);
        }

        /** Rule 9: a counter against a bound, alone or ahead of what else the loop asks. */
        @Override public Void visitForLoop(ForLoopTree tree, Void none) {
            String counter = "";
            if (tree.getInitializer().size() == 1 && tree.getInitializer().get(0) instanceof VariableTree) {
                counter = ((VariableTree) tree.getInitializer().get(0)).getName().toString();
            }
            String asked = String.valueOf(tree.getCondition());
            String step = tree.getUpdate().toString();
            boolean rises = asked.matches("\\(?" + counter + "( \\+ 1)? <=? [^&|?]*( && .*)?") && step.matches(counter + "(\\+\\+| \\+= [0-9]+);?");
            boolean falls = asked.matches("\\(?" + counter + " >=? [^&|?]*( && .*)?") && step.equals(counter + "--;");
            checks.holds(at(tree) + ": no end is seen of the loop over " + asked + " by " + step, !counter.isEmpty() && (rises || falls));
            return super.visitForLoop(tree, none);
        }

        @Override public Void visitWhileLoop(WhileLoopTree tree, Void none) { never(tree); return null; }
        @Override public Void visitDoWhileLoop(DoWhileLoopTree tree, Void none) { never(tree); return null; }
        @Override public Void visitLambdaExpression(LambdaExpressionTree tree, Void none) { never(tree); return null; }
        @Override public Void visitMemberReference(MemberReferenceTree tree, Void none) { never(tree); return null; }
        @Override public Void visitTry(TryTree tree, Void none) { never(tree); return null; }
        @Override public Void visitThrow(ThrowTree tree, Void none) { never(tree); return null; }
        @Override public Void visitAssert(AssertTree tree, Void none) { never(tree); return null; }
        @Override public Void visitSynchronized(SynchronizedTree tree, Void none) { never(tree); return null; }
        @Override public Void visitInstanceOf(InstanceOfTree tree, Void none) { never(tree); return null; }
        @Override public Void visitSwitchExpression(SwitchExpressionTree tree, Void none) { never(tree); return null; }

        @Override public Void visitLiteral(LiteralTree tree, Void none) {
            checks.holds(at(tree) + ": " + tree, !(tree.getValue() instanceof String) && !(tree.getValue() instanceof Double));
            return null;
        }
    }

    /** Calls make nothing, so that the room holds what the constructors make and no more. */
    private static void theRoom() {
        checks.begin("rule 12");
        var threads = (com.sun.management.ThreadMXBean) ManagementFactory.getThreadMXBean();
        dearCalls(new PowerClasses());
        PowerClasses x = new PowerClasses();
        long before = threads.getCurrentThreadAllocatedBytes();
        dearCalls(x);
        long made = threads.getCurrentThreadAllocatedBytes() - before;
        checks.holds("512 calls made " + made + " bytes", made < 4096);
        before = threads.getCurrentThreadAllocatedBytes();
        new PowerClasses();
        made = threads.getCurrentThreadAllocatedBytes() - before;
        checks.holds("an object is of " + made + " bytes", made < 24000);
    }

    private static void dearCalls(PowerClasses x) {
        for (int i = 0; i < 36; i++) {
            x.field(61, 12);
            x.use(6);
            x.whole(0, 2);
            x.raise(0, 40, 1);
            x.norm(0);
            x.product(0, 1, 2);
            x.turn(0, 3, 3);
            x.image();
            x.undo();
            x.feed('(');
            x.feed('7');
            x.feed('*');
            x.read(2);
            x.roots(97);
        }
    }
}
