import com.sun.source.tree.*;
import com.sun.source.util.JavacTask;
import com.sun.source.util.SourcePositions;
import com.sun.source.util.TreePath;
import com.sun.source.util.TreePathScanner;
import com.sun.source.util.Trees;
import java.io.File;
import java.lang.reflect.Constructor;
import java.lang.reflect.Field;
import java.lang.reflect.Method;
import java.lang.reflect.Modifier;
import java.util.ArrayDeque;
import java.util.ArrayList;
import java.util.Deque;
import java.util.HashMap;
import java.util.IdentityHashMap;
import java.util.LinkedHashMap;
import java.util.List;
import java.util.Map;
import java.util.Set;
import java.util.TreeMap;
import java.util.TreeSet;
import javax.lang.model.element.Element;
import javax.lang.model.element.ElementKind;
import javax.lang.model.element.ExecutableElement;
import javax.tools.JavaCompiler;
import javax.tools.StandardJavaFileManager;
import javax.tools.ToolProvider;

/** The rules of LANGUAGE.md, as far as a program can see them, and the public face of the document. */
public final class RulesTest {
    private static final String SOURCE = "src/main/java/OneWayPast.java";
    private static final int MOST_LINES = 60;
    private static final int MOST_PARAMETERS = 7;
    private static final int MOST_FIELDS = 20;
    private static final int MOST_CLASSES = 12;
    private static final int MOST_DEEP = 8;
    private static final int MOST_OBJECTS = 300;
    private static final int MOST_ELEMENTS = 12000;

    private static final String[] FACE = {
        "int feed(int,int,int,int,int)", "int town(int)", "int fault(int)", "int street(int,int)", "int goer(int,int)",
        "int why(int,int)", "int by(int,int,int)", "int go(int,int)", "int sign(int,int)", "int bollards(int)",
        "int put(int,int,int)", "int undo(int)", "int judge(int,int)", "int perform(int)", "int day(int,int)",
        "int soonest(int,int,int)", "int way(int,int,int,int)", "long rows(int,int,int,int)", "int when(int,int)",
        "int bound(int,int)", "int reach(int)", "int meet(int,int)", "int meetAt(int,int,int)", "int ring(int)",
        "int laws(int)", "int bylaw(int,int)", "int shut(int,int,int)", "int needed(int,int)", "int from(int,int,int)",
        "int bollardsBy(int,int,int)", "int attempt(int,int,int)", "int forces(int,int)", "int best(int,int)",
        "int chance(int,int,int,int)", "int mean(int,int,int)", "int likeliest(int,int)", "int numbers(int,int,int)",
        "long write(int,int,long)", "int lists(int,int,int,int)", "int image(int)", "int restore(int)", "int count(int)",
    };

    private static final Set<String> LIBRARY = Set.of(
            "java.lang.String.length", "java.lang.String.charAt", "java.lang.String.isEmpty", "java.lang.String.equals",
            "java.lang.String.indexOf", "java.lang.String.substring", "java.lang.String.toCharArray",
            "java.lang.System.arraycopy", "java.util.Arrays.copyOf", "java.util.Arrays.copyOfRange", "java.util.Arrays.fill",
            "java.lang.Math.min", "java.lang.Math.max", "java.lang.Math.abs", "java.lang.Math.floorMod", "java.lang.Math.floorDiv",
            "java.lang.Integer.bitCount", "java.lang.Integer.numberOfTrailingZeros", "java.lang.Object.<init>");

    private static int wrong = 0;

    private static void rule(int number, String what) {
        wrong++;
        System.out.println("rule " + number + ": " + what);
    }

    public static void main(String[] args) throws Exception {
        checkFace();
        checkSource();
        checkRoom();
        System.out.println(wrong == 0 ? "no rule is broken" : wrong + " rules are broken");
        if (wrong != 0) {
            System.exit(1);
        }
    }

    private static void checkFace() {
        Set<String> due = new TreeSet<>(List.of(FACE));
        Set<String> names = new TreeSet<>();
        for (Method m : OneWayPast.class.getDeclaredMethods()) {
            StringBuilder types = new StringBuilder();
            for (Class<?> type : m.getParameterTypes()) {
                types.append(types.length() > 0 ? "," : "").append(type.getSimpleName());
            }
            String told = m.getReturnType().getSimpleName() + " " + m.getName() + "(" + types + ")";
            if (Modifier.isPublic(m.getModifiers())) {
                names.add(m.getName());
                if (!due.remove(told) || Modifier.isStatic(m.getModifiers())) {
                    rule(1, "not of the face: " + told);
                }
            } else if (!Modifier.isPrivate(m.getModifiers())) {
                rule(1, "not private: " + told);
            }
        }
        for (String missing : due) {
            rule(1, "missing: " + missing);
        }
        for (Field f : OneWayPast.class.getDeclaredFields()) {
            if (!Modifier.isPrivate(f.getModifiers()) && !f.getName().equals("NONE")) {
                rule(1, "not private: " + f);
            }
        }
        for (Class<?> c : OneWayPast.class.getDeclaredClasses()) {
            if (!Modifier.isStatic(c.getModifiers()) && !c.isRecord() && !c.isEnum() && !c.isInterface()) {
                rule(2, "not static: " + c);
            }
            for (Method m : c.getDeclaredMethods()) {
                if (names.contains(m.getName())) {
                    rule(1, "bears the name of a public one: " + m);
                }
            }
        }
        for (Method m : OneWayPast.class.getDeclaredMethods()) {
            if (Modifier.isPrivate(m.getModifiers()) && names.contains(m.getName())) {
                rule(1, "bears the name of a public one: " + m);
            }
        }
        Constructor<?>[] made = OneWayPast.class.getDeclaredConstructors();
        if (made.length != 1 || made[0].getParameterCount() != 0 || !Modifier.isPublic(made[0].getModifiers())) {
            rule(1, "constructors");
        }
        if (!Modifier.isFinal(OneWayPast.class.getModifiers())) {
            rule(1, "not final");
        }
    }

    private static void checkSource() throws Exception {
        JavaCompiler compiler = ToolProvider.getSystemJavaCompiler();
        StandardJavaFileManager files = compiler.getStandardFileManager(null, null, null);
        JavacTask task = (JavacTask) compiler.getTask(null, files, null, List.of("-proc:none"), null,
                files.getJavaFileObjects(new File(SOURCE)));
        CompilationUnitTree unit = task.parse().iterator().next();
        task.analyze();
        Source source = new Source(unit, Trees.instance(task));
        source.scan(unit, null);
        if (source.classes > MOST_CLASSES) {
            rule(11, source.classes + " classes");
        }
        source.checkDepth();
    }

    /** One look at every part of the source. */
    private static final class Source extends TreePathScanner<Void, Void> {
        final CompilationUnitTree unit;
        final Trees trees;
        final SourcePositions positions;
        final Map<String, Set<String>> calls = new LinkedHashMap<>();
        int classes;
        String method;

        Source(CompilationUnitTree unit, Trees trees) {
            this.unit = unit;
            this.trees = trees;
            this.positions = trees.getSourcePositions();
        }

        long line(Tree tree, boolean end) {
            long at = end ? positions.getEndPosition(unit, tree) : positions.getStartPosition(unit, tree);
            return unit.getLineMap().getLineNumber(at);
        }

        void broken(int number, Tree tree, String what) {
            rule(number, "line " + line(tree, false) + ": " + what);
        }

        @Override public Void visitImport(ImportTree tree, Void p) {
            String name = tree.getQualifiedIdentifier().toString();
            if (!Set.of("java.util.Arrays", "java.util.ArrayList", "java.util.List", "java.util.Iterator").contains(name)) {
                broken(4, tree, name);
            }
            return null;
        }

        @Override public Void visitClass(ClassTree tree, Void p) {
            classes++;
            int fields = 0;
            for (Tree member : tree.getMembers()) {
                if (member instanceof VariableTree field) {
                    Set<javax.lang.model.element.Modifier> flags = field.getModifiers().getFlags();
                    boolean fixed = flags.contains(javax.lang.model.element.Modifier.STATIC);
                    fields += fixed ? 0 : 1;
                    if (fixed && !flags.contains(javax.lang.model.element.Modifier.FINAL)) {
                        broken(5, member, "a static field that isn't final");
                    }
                }
                if (member instanceof BlockTree) {
                    broken(5, member, "an initialiser block");
                }
            }
            if (fields > MOST_FIELDS) {
                broken(11, tree, fields + " fields");
            }
            if (tree.getSimpleName().length() == 0) {
                broken(2, tree, "a class without a name");
            }
            return super.visitClass(tree, p);
        }

        @Override public Void visitMethod(MethodTree tree, Void p) {
            Element element = trees.getElement(getCurrentPath());
            method = nameOf(element);
            calls.computeIfAbsent(method, m -> new TreeSet<>());
            if (tree.getParameters().size() > MOST_PARAMETERS) {
                broken(11, tree, tree.getParameters().size() + " parameters");
            }
            long lines = line(tree, true) - line(tree, false) + 1;
            if (lines > MOST_LINES) {
                broken(11, tree, lines + " lines");
            }
            super.visitMethod(tree, p);
            method = null;
            return null;
        }

        static String nameOf(Element element) {
            return element.getEnclosingElement() + "." + (element.getKind() == ElementKind.CONSTRUCTOR ? "<init>" : element.getSimpleName());
        }

        @Override public Void visitMethodInvocation(MethodInvocationTree tree, Void p) {
            note(trees.getElement(new TreePath(getCurrentPath(), tree.getMethodSelect())), tree);
            return super.visitMethodInvocation(tree, p);
        }

        @Override public Void visitNewClass(NewClassTree tree, Void p) {
            note(trees.getElement(getCurrentPath()), tree);
            return super.visitNewClass(tree, p);
        }

        void note(Element called, Tree tree) {
            if (!(called instanceof ExecutableElement)) {
                return;
            }
            String name = nameOf(called);
            if (!name.startsWith("OneWayPast") && !LIBRARY.contains(name)) {
                broken(4, tree, name);
            } else if (method != null && name.startsWith("OneWayPast")) {
                calls.get(method).add(name);
            }
        }

        @Override public Void visitBinary(BinaryTree tree, Void p) {
            if (tree.getKind() == Tree.Kind.PLUS) {
                String type = String.valueOf(trees.getTypeMirror(getCurrentPath()));
                if (type.contains("String")) {
                    broken(10, tree, "texts joined by +");
                }
            }
            return super.visitBinary(tree, p);
        }

        @Override public Void visitThrow(ThrowTree tree, Void p) {
            broken(6, tree, "throw");
            return super.visitThrow(tree, p);
        }

        @Override public Void visitTry(TryTree tree, Void p) {
            broken(6, tree, "try");
            return super.visitTry(tree, p);
        }

        @Override public Void visitSynchronized(SynchronizedTree tree, Void p) {
            broken(6, tree, "synchronized");
            return super.visitSynchronized(tree, p);
        }

        @Override public Void visitAssert(AssertTree tree, Void p) {
            broken(6, tree, "assert");
            return super.visitAssert(tree, p);
        }

        @Override public Void visitLambdaExpression(LambdaExpressionTree tree, Void p) {
            broken(2, tree, "a lambda");
            return super.visitLambdaExpression(tree, p);
        }

        @Override public Void visitMemberReference(MemberReferenceTree tree, Void p) {
            broken(2, tree, "a method reference");
            return super.visitMemberReference(tree, p);
        }

        /** Methods that call one another in a ring count as one. */
        void checkDepth() {
            Map<String, Set<String>> reached = new TreeMap<>();
            for (String m : calls.keySet()) {
                Set<String> seen = new TreeSet<>();
                Deque<String> open = new ArrayDeque<>(calls.get(m));
                while (!open.isEmpty()) {
                    String next = open.pop();
                    if (seen.add(next)) {
                        open.addAll(calls.getOrDefault(next, Set.of()));
                    }
                }
                reached.put(m, seen);
            }
            Map<String, List<String>> deepest = new HashMap<>();
            for (String m : calls.keySet()) {
                List<String> chain = chainFrom(m, reached, deepest);
                if (chain.size() > MOST_DEEP) {
                    rule(11, "calls " + chain.size() + " deep: " + String.join(" > ", chain));
                }
            }
        }

        List<String> chainFrom(String m, Map<String, Set<String>> reached, Map<String, List<String>> deepest) {
            if (deepest.containsKey(m)) {
                return deepest.get(m);
            }
            Set<String> together = new TreeSet<>(Set.of(m));
            for (String other : reached.get(m)) {
                if (reached.getOrDefault(other, Set.of()).contains(m)) {
                    together.add(other);
                }
            }
            List<String> longest = List.of();
            for (String member : together) {
                for (String called : calls.getOrDefault(member, Set.of())) {
                    if (!together.contains(called)) {
                        List<String> chain = calls.containsKey(called) ? chainFrom(called, reached, deepest) : List.of(called);
                        longest = chain.size() > longest.size() ? chain : longest;
                    }
                }
            }
            List<String> chain = new ArrayList<>(List.of(String.join("|", together)));
            chain.addAll(longest);
            deepest.put(m, chain);
            return chain;
        }
    }

    /** What an object is made of, and that its calls make nothing more. */
    private static void checkRoom() throws Exception {
        int[] room = new int[2];
        weigh(new OneWayPast(), new IdentityHashMap<>(), room);
        if (room[0] > MOST_OBJECTS || room[1] > MOST_ELEMENTS) {
            rule(12, "an object is made of " + room[0] + " objects and arrays with " + room[1] + " fields and elements");
        }
        System.out.println("an object: " + room[0] + " objects and arrays, " + room[1] + " fields and elements");
        var bean = (com.sun.management.ThreadMXBean) java.lang.management.ManagementFactory.getThreadMXBean();
        OneWayPast x = new OneWayPast();
        allCalls(x);
        long before = bean.getCurrentThreadAllocatedBytes();
        long idle = bean.getCurrentThreadAllocatedBytes() - before;
        before = bean.getCurrentThreadAllocatedBytes();
        for (int i = 0; i < 3; i++) {
            allCalls(x);
        }
        long made = bean.getCurrentThreadAllocatedBytes() - before - idle;
        if (made > 0) {
            rule(12, "calls made " + made + " bytes");
        }
    }

    private static void weigh(Object o, Map<Object, Boolean> seen, int[] room) throws Exception {
        if (o == null || seen.put(o, true) != null || !o.getClass().isArray() && !o.getClass().getName().startsWith("OneWayPast")) {
            return;
        }
        room[0]++;
        if (o.getClass().isArray()) {
            int length = java.lang.reflect.Array.getLength(o);
            room[1] += length;
            for (int i = 0; i < length && !o.getClass().getComponentType().isPrimitive(); i++) {
                weigh(java.lang.reflect.Array.get(o, i), seen, room);
            }
            return;
        }
        for (Field f : o.getClass().getDeclaredFields()) {
            if (!Modifier.isStatic(f.getModifiers())) {
                room[1]++;
                f.setAccessible(true);
                if (!f.getType().isPrimitive()) {
                    weigh(f.get(o), seen, room);
                }
            }
        }
    }

    private static long allCalls(OneWayPast x) {
        long sum = 0;
        // "town 2;street 0 1 sign 2;goer 0 year 2;goer 1 year 3;may:1<2;"
        sum += x.feed(0x746f776e, 0x20323b73, 0x74726565, 0x74203020, 0x31207369);
        sum += x.feed(0x676e2032, 0x3b676f65, 0x72203020, 0x79656172, 0x20323b67);
        sum += x.feed(0x6f657220, 0x31207965, 0x61722033, 0x3b6d6179, 0x3a313c32);
        sum += x.feed(0x3b202020, 0x20202020, 0x20202020, 0x20202020, 0x20202020);
        if (x.town(80) != 5) {
            rule(12, "the town of the test: " + x.fault(0) + " at " + x.fault(1));
        }
        sum += x.fault(0) + x.street(0, 0) + x.goer(0, 2) + x.why(0, 0) + x.by(0, 0, 0) + x.go(0, 0) + x.sign(0, 2);
        sum += x.bollards(3) + x.put(0, 0, 2) + x.undo(1) + x.numbers(0, 1, 2) + x.write(0, 0, 0) + x.judge(0, 0);
        sum += x.perform(0) + x.day(5, 40) + x.soonest(0, 1, -1) + x.way(0, 1, -1, 0) + x.rows(0, 1, -1, 12) + x.when(0, 1);
        sum += x.bound(0, 1) + x.reach(0) + x.meet(0, 1) + x.meetAt(0, 1, 0) + x.ring(0) + x.laws(0) + x.bylaw(0, 1);
        sum += x.shut(0, 1, 1) + x.needed(0, 1) + x.from(0, 0, 2) + x.bollardsBy(0, 0, 2) + x.attempt(0, 0, 2);
        sum += x.forces(0, 1) + x.best(0, 1) + x.chance(0, 1, 6, 0) + x.mean(0, 6, 0) + x.likeliest(0, 6);
        sum += x.lists(0, 0, 1, -1) + x.image(0) + x.restore(0) + x.count(4);
        return sum;
    }
}
