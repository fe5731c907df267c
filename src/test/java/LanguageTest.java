import com.sun.source.tree.AssertTree;
import com.sun.source.tree.BinaryTree;
import com.sun.source.tree.ClassTree;
import com.sun.source.tree.CompilationUnitTree;
import com.sun.source.tree.LambdaExpressionTree;
import com.sun.source.tree.MemberReferenceTree;
import com.sun.source.tree.MethodInvocationTree;
import com.sun.source.tree.MethodTree;
import com.sun.source.tree.NewClassTree;
import com.sun.source.tree.SynchronizedTree;
import com.sun.source.tree.Tree;
import com.sun.source.tree.TryTree;
import com.sun.source.tree.VariableTree;
import com.sun.source.util.JavacTask;
import com.sun.source.util.TreePath;
import com.sun.source.util.TreePathScanner;
import com.sun.source.util.Trees;
import java.io.File;
import java.lang.reflect.Constructor;
import java.lang.reflect.Field;
import java.lang.reflect.Method;
import java.lang.reflect.Modifier;
import java.util.ArrayList;
import java.util.Arrays;
import java.util.HashMap;
import java.util.HashSet;
import java.util.List;
import java.util.Map;
import java.util.Set;
import java.util.TreeMap;
import java.util.TreeSet;
import javax.lang.model.element.Element;
import javax.lang.model.element.ExecutableElement;
import javax.lang.model.element.TypeElement;
import javax.tools.JavaCompiler;
import javax.tools.JavaFileObject;
import javax.tools.StandardJavaFileManager;
import javax.tools.ToolProvider;

/** The rules of LANGUAGE.md that can be looked up in the source, the face, and how much room a long run takes. */
public final class LanguageTest {
    private static int wrong = 0;

    private static void due(boolean so, String what) {
        if (!so) {
            wrong++;
            System.out.println(what);
        }
    }

    private static final String[] FACE = {
        "int feed(long,long,long)", "int tower()", "int may(int)", "long list(int)", "int cost(int)",
        "int trial(int,boolean)", "int hint(int,int)", "int left(int)", "int sure(int)", "int matters(int)",
        "int alike(int,int)", "int next(int)", "int fewest(int)", "int fewestFor(int,int,int)", "int run(int,int,int)",
        "int runSet(int,int,int)", "int worst(int)", "int mean(int,int)", "int smallest(int)", "int cannot(int)",
        "int wrong(int)", "int suspect(int)", "int with(int)", "int grown(int)", "int bells()", "int late(int,int)",
        "int often(int)", "int rings(int)", "int vote(int,int,int)", "int swings(int,int)",
        "int heavy(int,boolean,int)", "int leastSet(int,int)", "int vetoes(int)", "int same(int,int)", "int lay(int)",
        "boolean clear()", "int feather(int)", "int odds(int,int)", "int guess(int,int)",
        "boolean mark(int,boolean)", "int count(int)"};

    private static void face() {
        Set<String> want = new TreeSet<>(Arrays.asList(FACE));
        Set<String> got = new TreeSet<>();
        for (Method m : BellPlate.class.getDeclaredMethods()) {
            if (m.isSynthetic() || Modifier.isPrivate(m.getModifiers())) continue;
            List<String> types = new ArrayList<>();
            for (Class<?> c : m.getParameterTypes()) types.add(c.getName());
            got.add(m.getReturnType().getName() + " " + m.getName() + "(" + String.join(",", types) + ")");
            due(Modifier.isPublic(m.getModifiers()) && !Modifier.isStatic(m.getModifiers()), "not public: " + m);
        }
        due(want.equals(got), "the face is " + got);
        for (Field f : BellPlate.class.getDeclaredFields()) {
            due(Modifier.isPrivate(f.getModifiers()) || f.getName().equals("NONE"), "seen from outside: " + f);
        }
        for (Constructor<?> c : BellPlate.class.getDeclaredConstructors()) {
            due(Modifier.isPublic(c.getModifiers()) && c.getParameterCount() == 0, "constructor " + c);
        }
        due(Modifier.isFinal(BellPlate.class.getModifiers()), "the class is not final");
    }

    private static final Set<String> LIBRARY = Set.of("Math.max", "Math.min", "Long.bitCount", "Integer.bitCount",
            "Arrays.fill", "System.arraycopy", "String.indexOf");
    private static final Set<String> THROWN = Set.of("IllegalStateException", "IllegalArgumentException",
            "IndexOutOfBoundsException", "ArithmeticException", "UnsupportedOperationException",
            "NoSuchElementException", "RuntimeException");

    private static final class Look extends TreePathScanner<Void, Void> {
        final Trees trees;
        final CompilationUnitTree unit;
        final Map<Element, Set<Element>> calls = new HashMap<>();
        final Set<String> publics = new HashSet<>();
        final List<String> privates = new ArrayList<>();
        int classes = 0;
        ExecutableElement inside;

        Look(Trees trees, CompilationUnitTree unit) {
            this.trees = trees;
            this.unit = unit;
            for (String f : FACE) publics.add(f.replaceAll(".* |\\(.*", ""));
        }

        long lineOf(Tree t, boolean end) {
            long at = end ? trees.getSourcePositions().getEndPosition(unit, t)
                    : trees.getSourcePositions().getStartPosition(unit, t);
            return unit.getLineMap().getLineNumber(at);
        }

        Element element(Tree t) {
            return trees.getElement(new TreePath(getCurrentPath(), t));
        }

        @Override public Void visitClass(ClassTree c, Void v) {
            classes++;
            int fields = 0;
            for (Tree m : c.getMembers()) {
                if (m instanceof VariableTree f) {
                    boolean still = f.getModifiers().getFlags().contains(javax.lang.model.element.Modifier.STATIC);
                    boolean last = f.getModifiers().getFlags().contains(javax.lang.model.element.Modifier.FINAL);
                    due(!still || last, "static and not final: " + f);
                    if (!still) fields++;
                }
            }
            due(fields <= 20, c.getSimpleName() + " has " + fields + " fields");
            return super.visitClass(c, v);
        }

        @Override public Void visitMethod(MethodTree m, Void v) {
            ExecutableElement before = inside;
            inside = (ExecutableElement) trees.getElement(getCurrentPath());
            calls.computeIfAbsent(inside, k -> new HashSet<>());
            due(m.getParameters().size() <= 7, m.getName() + " has too many parameters");
            due(lineOf(m, true) - lineOf(m, false) < 60, m.getName() + " is long");
            if (m.getModifiers().getFlags().contains(javax.lang.model.element.Modifier.PRIVATE)) {
                due(!publics.contains(m.getName().toString()), "private, with a name of the face: " + m.getName());
            }
            super.visitMethod(m, v);
            inside = before;
            return null;
        }

        @Override public Void visitMethodInvocation(MethodInvocationTree call, Void v) {
            Element e = element(call.getMethodSelect());
            TypeElement owner = (TypeElement) e.getEnclosingElement();
            if (owner.getQualifiedName().toString().startsWith("java.")) {
                boolean constructor = e.getSimpleName().contentEquals("<init>");
                due(constructor || LIBRARY.contains(owner.getSimpleName() + "." + e.getSimpleName()),
                        "not in the library: " + owner.getSimpleName() + "." + e.getSimpleName());
            } else if (inside != null) {
                calls.get(inside).add(e);
            }
            return super.visitMethodInvocation(call, v);
        }

        @Override public Void visitNewClass(NewClassTree n, Void v) {
            String name = n.getIdentifier().toString();
            Element e = element(n.getIdentifier());
            boolean own = !((TypeElement) e).getQualifiedName().toString().startsWith("java.");
            due(own || THROWN.contains(name), "made: " + name);
            return super.visitNewClass(n, v);
        }

        @Override public Void visitBinary(BinaryTree b, Void v) {
            due(!trees.getTypeMirror(getCurrentPath()).toString().equals("java.lang.String"), "texts joined by +: " + b);
            return super.visitBinary(b, v);
        }

        @Override public Void visitLambdaExpression(LambdaExpressionTree t, Void v) {
            due(false, "lambda: " + t);
            return null;
        }

        @Override public Void visitMemberReference(MemberReferenceTree t, Void v) {
            due(false, "method reference: " + t);
            return null;
        }

        @Override public Void visitTry(TryTree t, Void v) {
            due(false, "try: " + t);
            return null;
        }

        @Override public Void visitAssert(AssertTree t, Void v) {
            due(false, "assert: " + t);
            return null;
        }

        @Override public Void visitSynchronized(SynchronizedTree t, Void v) {
            due(false, "synchronized: " + t);
            return null;
        }
    }

    /** The longest chain of calls; those that come to themselves again count once. */
    private static int depth(Element e, Map<Element, Set<Element>> calls, Set<Element> open, Map<Element, Integer> known) {
        if (known.containsKey(e)) return known.get(e);
        open.add(e);
        int deepest = 0;
        for (Element next : calls.getOrDefault(e, Set.of())) {
            if (!open.contains(next)) deepest = Math.max(deepest, depth(next, calls, open, known));
        }
        open.remove(e);
        boolean loops = reaches(e, e, calls, new HashSet<>());
        if (!loops) known.put(e, deepest + 1);
        return loops ? deepest : deepest + 1;
    }

    private static boolean reaches(Element from, Element to, Map<Element, Set<Element>> calls, Set<Element> seen) {
        for (Element next : calls.getOrDefault(from, Set.of())) {
            if (next.equals(to) || seen.add(next) && reaches(next, to, calls, seen)) return true;
        }
        return false;
    }

    private static void source() throws Exception {
        JavaCompiler compiler = ToolProvider.getSystemJavaCompiler();
        StandardJavaFileManager files = compiler.getStandardFileManager(null, null, null);
        Iterable<? extends JavaFileObject> units = files.getJavaFileObjects(new File("src/main/java/BellPlate.java"));
        JavacTask task = (JavacTask) compiler.getTask(null, files, null, List.of("-proc:none"), null, units);
        CompilationUnitTree unit = task.parse().iterator().next();
        task.analyze();
        Look look = new Look(Trees.instance(task), unit);
        look.scan(unit, null);
        due(look.classes <= 12, look.classes + " classes");
        Map<String, Integer> depths = new TreeMap<>();
        for (Element e : look.calls.keySet()) {
            int d = depth(e, look.calls, new HashSet<>(), new HashMap<>());
            depths.put(e.toString(), d);
            due(d <= 8, e + " goes " + d + " deep");
        }
        for (Tree t : unit.getImports()) {
            due(t.toString().matches("(?s)import java\\.util\\.(Arrays|NoSuchElementException);\\s*"), "import: " + t);
        }
        String text = unit.getSourceFile().getCharContent(true).toString();
        due(text.chars().allMatch(c -> c < 127), "signs above 126 in the source");
        due(!text.matches("(?s).*\\b(double|float|while|finally|catch)\\b.*"), "a word that the class does without");
    }

    private static void feed(BellPlate x, String text) {
        for (int i = 0; i < text.length(); i += 24) {
            long[] v = new long[3];
            for (int k = 0; k < 24; k++) v[k / 8] = v[k / 8] << 8 | (i + k < text.length() ? text.charAt(i + k) : 0);
            x.feed(v[0], v[1], v[2]);
        }
    }

    /** 512 dear calls on the greatest tower must leave most of the room of 7.3 million elements free. */
    private static void room() {
        com.sun.management.ThreadMXBean bean =
                (com.sun.management.ThreadMXBean) java.lang.management.ManagementFactory.getThreadMXBean();
        long id = Thread.currentThread().getId();
        long start = bean.getThreadAllocatedBytes(id);
        BellPlate x = new BellPlate();
        long made = bean.getThreadAllocatedBytes(id);
        due(made - start < 60_000, "a new object takes " + (made - start) + " bytes");
        for (int round = 0; round < 30; round++) {
            feed(x, "thing a;thing b;thing c;thing d;thing e;thing f;most 4;bar 7;cost size * 2 - a;");
            x.tower();
            for (int k = 0; k < 6; k++) x.trial(round * 7 + k * 11 & 63, (round + k) % 3 == 0);
            x.left(0);
            x.next(round % 3);
            x.worst(round % 3);
            x.fewest(0);
            x.smallest(0);
            x.cannot(0);
            x.grown(0);
            x.bells();
            x.late(-1, 0);
            x.same(round * 500, 0);
        }
        long all = bean.getThreadAllocatedBytes(id) - start;
        due(all < 2_000_000, "a long run takes " + all + " bytes");
    }

    public static void main(String[] args) throws Exception {
        face();
        source();
        room();
        System.out.println(wrong == 0 ? "all is as due" : wrong + " things are not as due");
        if (wrong != 0) System.exit(1);
    }
}
