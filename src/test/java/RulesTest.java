import com.sun.source.tree.ClassTree;
import com.sun.source.tree.CompilationUnitTree;
import com.sun.source.tree.MethodInvocationTree;
import com.sun.source.tree.MethodTree;
import com.sun.source.tree.NewClassTree;
import com.sun.source.tree.Tree;
import com.sun.source.tree.VariableTree;
import com.sun.source.util.JavacTask;
import com.sun.source.util.TreePathScanner;
import com.sun.source.util.Trees;
import java.io.IOException;
import java.nio.file.Path;
import java.util.HashSet;
import java.util.List;
import java.util.Map;
import java.util.Set;
import java.util.TreeMap;
import java.util.TreeSet;
import javax.lang.model.element.Element;
import javax.lang.model.element.Modifier;
import javax.tools.JavaCompiler;
import javax.tools.StandardJavaFileManager;
import javax.tools.ToolProvider;

/** What of ../shared/LANGUAGE.md is to be read off the parsed program: its classes, members and who calls whom. */
public final class RulesTest {
    private static final Set<String> LIBRARY = Set.of("java.lang.Integer.bitCount(int)",
        "java.lang.Math.floorMod(long,long)", "java.lang.Math.max(int,int)", "java.lang.Math.min(int,int)",
        "java.lang.System.arraycopy(java.lang.Object,int,java.lang.Object,int,int)",
        "java.util.Arrays.fill(int[],int)");
    private static final int MOST_CLASSES = 12;
    private static final int MOST_FIELDS = 20;
    private static final int MOST_PARAMETERS = 7;
    private static final int MOST_DEEP = 8;

    private final Map<String, Set<String>> calls = new TreeMap<>();
    private final Map<String, Set<Modifier>> methods = new TreeMap<>();
    private int classes;
    private int wrong;

    private void claim(boolean good, String what) {
        if (!good) {
            wrong++;
            System.out.println("not so: " + what);
        }
    }

    public static void main(String[] args) throws IOException {
        RulesTest test = new RulesTest();
        test.parse(Path.of("src/main/java/RoomTrees.java"));
        test.rules();
        System.out.println(test.wrong == 0 ? "the rules are kept" : "the rules are not kept");
        if (test.wrong != 0) {
            System.exit(1);
        }
    }

    private void parse(Path file) throws IOException {
        JavaCompiler compiler = ToolProvider.getSystemJavaCompiler();
        try (StandardJavaFileManager files = compiler.getStandardFileManager(null, null, null)) {
            JavacTask task = (JavacTask) compiler.getTask(null, files, null, List.of("-proc:none"), null,
                files.getJavaFileObjects(file));
            Iterable<? extends CompilationUnitTree> units = task.parse();
            task.analyze();
            for (CompilationUnitTree unit : units) {
                new Scanner(Trees.instance(task)).scan(unit, null);
            }
        }
    }

    private final class Scanner extends TreePathScanner<Void, Void> {
        private final Trees trees;
        private String at = "";

        Scanner(Trees trees) {
            this.trees = trees;
        }

        @Override
        public Void visitClass(ClassTree type, Void none) {
            Set<Modifier> flags = type.getModifiers().getFlags();
            claim(classes == 0 ? flags.equals(Set.of(Modifier.PUBLIC, Modifier.FINAL))
                : flags.contains(Modifier.STATIC) && !flags.contains(Modifier.PUBLIC), "class " + type.getSimpleName());
            classes++;
            int fields = 0;
            for (Tree member : type.getMembers()) {
                if (member instanceof VariableTree field) {
                    Set<Modifier> has = field.getModifiers().getFlags();
                    claim(has.contains(Modifier.PRIVATE), "private " + field.getName());
                    fields += has.contains(Modifier.STATIC) ? 0 : 1;
                }
            }
            claim(fields <= MOST_FIELDS, fields + " fields of " + type.getSimpleName());
            return super.visitClass(type, none);
        }

        @Override
        public Void visitMethod(MethodTree method, Void none) {
            at = nameOf(trees.getElement(getCurrentPath()));
            claim(method.getParameters().size() <= MOST_PARAMETERS, "parameters of " + at);
            claim(method.getName().contentEquals("<init>") || !methods.containsKey(at), "two methods " + at);
            methods.put(at, method.getModifiers().getFlags());
            calls.put(at, new TreeSet<>());
            return super.visitMethod(method, none);
        }

        @Override
        public Void visitMethodInvocation(MethodInvocationTree call, Void none) {
            note(trees.getElement(getCurrentPath()));
            return super.visitMethodInvocation(call, none);
        }

        @Override
        public Void visitNewClass(NewClassTree made, Void none) {
            note(trees.getElement(getCurrentPath()));
            return super.visitNewClass(made, none);
        }

        private void note(Element called) {
            String owner = called.getEnclosingElement().toString();
            if (!owner.startsWith("java")) {
                calls.computeIfAbsent(at, key -> new TreeSet<>()).add(nameOf(called));
            } else if (!called.toString().equals("Object()")) {
                claim(LIBRARY.contains(owner + "." + called), "no call of " + owner + "." + called);
            }
        }

        private String nameOf(Element member) {
            return member.getEnclosingElement().getSimpleName() + "." + member.getSimpleName();
        }
    }

    private void rules() {
        claim(classes <= MOST_CLASSES, classes + " classes");
        Set<String> face = new HashSet<>();
        for (Map.Entry<String, Set<Modifier>> method : methods.entrySet()) {
            if (method.getValue().contains(Modifier.PUBLIC)) {
                claim(method.getKey().startsWith("RoomTrees."), "public " + method.getKey());
                face.add(method.getKey().replaceAll(".*\\.", ""));
            }
        }
        for (Map.Entry<String, Set<Modifier>> method : methods.entrySet()) {
            String name = method.getKey();
            Set<Modifier> flags = method.getValue();
            if (name.startsWith("RoomTrees.")) {
                claim(flags.contains(Modifier.PUBLIC) || flags.contains(Modifier.PRIVATE), "private " + name);
            }
            claim(!flags.contains(Modifier.PRIVATE) || !face.contains(name.replaceAll(".*\\.", "")),
                "no private method with the name of a public one: " + name);
            claim(!leads(name, name, new HashSet<>()) || flags.containsAll(Set.of(Modifier.PRIVATE, Modifier.STATIC)),
                "a method that calls itself is private and static: " + name);
            claim(depth(name, new HashSet<>()) <= MOST_DEEP, "calls of " + name + " go too deep");
        }
    }

    private boolean leads(String from, String to, Set<String> seen) {
        for (String called : calls.getOrDefault(from, Set.of())) {
            if (called.equals(to) || seen.add(called) && leads(called, to, seen)) {
                return true;
            }
        }
        return false;
    }

    /** How many methods stand open at once at most, each counted once. */
    private int depth(String from, Set<String> open) {
        int most = 0;
        if (open.add(from)) {
            for (String called : calls.getOrDefault(from, Set.of())) {
                most = Math.max(most, open.contains(called) ? 0 : depth(called, open));
            }
            open.remove(from);
        }
        return most + 1;
    }
}
