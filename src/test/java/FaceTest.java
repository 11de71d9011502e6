import java.lang.reflect.Constructor;
import java.lang.reflect.Field;
import java.lang.reflect.Method;
import java.lang.reflect.Modifier;
import java.util.Set;
import java.util.TreeSet;

/** The public face of ../shared/DOC.md, and nothing beside it. */
public final class FaceTest {
    private static final String[] FACE = {
        "vertex(int)", "weigh(int,int)", "tie(int,int)", "cut(int,int)", "take(int)", "at(int,int)", "table(int,int)",
        "move(int,int,int,int,int)", "undo()", "redo()", "trail(int,int)", "factor()", "minor(int)", "det()",
        "link(int,int,int)", "inertia(int)", "kernel(int)", "wu(int)", "mu()", "fraction(int,int,int)", "room(int,int)",
        "oneRoom(int,int)", "chain(int,int,int)", "plant(int,int)", "feed(long,int)", "forest()", "least(int)",
        "keep(int)", "fetch(int)", "drop(int)", "alike(int)", "worker(int,int)", "workerIs(int,int)",
        "become(int,int)", "as(int,int)", "next(int,int)", "work(int,int)", "rest(int,int)", "best(int)",
        "fewest(int,int)", "reach(int,int)", "sheet(int,int,int)", "put(int,int,int)", "number(int,int)",
        "copy(int,int,int,int,int)", "weighAll(int)", "book(int)", "plays(int,int)", "image()", "restore()",
        "count(int)", "told(int)",
    };
    private static int wrong;

    private static void claim(boolean good, String what) {
        if (!good) {
            wrong++;
            System.out.println("not so: " + what);
        }
    }

    private static String sign(Method m) {
        StringBuilder text = new StringBuilder(m.getName() + "(");
        for (Class<?> type : m.getParameterTypes()) {
            text.append(text.charAt(text.length() - 1) == '(' ? "" : ",").append(type.getName());
        }
        return text + ")";
    }

    public static void main(String[] args) {
        Class<?> face = RoomTrees.class;
        claim(Modifier.isPublic(face.getModifiers()) && Modifier.isFinal(face.getModifiers()), "public final");
        claim(face.getPackage() == null || face.getPackage().getName().isEmpty(), "no package");
        claim(face.getSuperclass() == Object.class && face.getInterfaces().length == 0, "nothing above it");
        Set<String> left = new TreeSet<>(Set.of(FACE));
        Set<String> names = new TreeSet<>();
        for (Method m : face.getDeclaredMethods()) {
            if (!Modifier.isPrivate(m.getModifiers())) {
                names.add(m.getName());
                claim(left.remove(sign(m)), "only what the face has: " + sign(m));
                claim(m.getModifiers() == Modifier.PUBLIC && m.getReturnType() == int.class, "public int " + sign(m));
            }
        }
        claim(left.isEmpty(), "nothing is missing: " + left);
        for (Constructor<?> c : face.getDeclaredConstructors()) {
            claim(c.getModifiers() == Modifier.PUBLIC && c.getParameterCount() == 0, "one public constructor");
        }
        for (Field f : face.getDeclaredFields()) {
            claim(Modifier.isPrivate(f.getModifiers()), "private field " + f.getName());
        }
        privateNames(face, names);
        for (Class<?> inside : face.getDeclaredClasses()) {
            claim(Modifier.isStatic(inside.getModifiers()), "static class " + inside.getName());
            claim(!Modifier.isPublic(inside.getModifiers()) && !Modifier.isProtected(inside.getModifiers()),
                    "hidden class " + inside.getName());
            privateNames(inside, names);
        }
        claim(face.getDeclaredClasses().length <= 11, "some twelve classes");
        System.out.println(wrong == 0 ? "the face is as the document has it" : "the face differs");
        if (wrong != 0) {
            System.exit(1);
        }
    }

    /** LANGUAGE.md, rules 1, 5 and 11. */
    private static void privateNames(Class<?> some, Set<String> names) {
        int fields = 0;
        for (Field f : some.getDeclaredFields()) {
            boolean fixed = Modifier.isStatic(f.getModifiers());
            fields += fixed ? 0 : 1;
            claim(!fixed || Modifier.isFinal(f.getModifiers()), "final static field " + f.getName());
        }
        claim(fields <= 20, "some twenty fields in " + some.getName());
        for (Method m : some.getDeclaredMethods()) {
            boolean own = Modifier.isPublic(m.getModifiers()) && some == RoomTrees.class;
            claim(own || !names.contains(m.getName()), "no private method with the name " + m.getName());
            claim(m.getParameterCount() <= 7, "seven parameters at most: " + m);
        }
    }
}
