import java.lang.management.ManagementFactory;
import java.lang.reflect.InvocationTargetException;
import java.lang.reflect.Method;
import java.util.ArrayList;
import java.util.Arrays;
import java.util.Comparator;
import java.util.List;
import java.util.Random;

/**
 * No call throws, for any arguments in any state, nor behind the 512th call; the same calls give the same answers;
 * and what 512 of the dearest calls make stays small.
 */
public final class AnyCallTest {
    private static final int[] EDGES = {0, 1, 2, -1, -2, 3, 4, 5, 6, 7, 8, 9, 10, 11, 12, 13, 16, 23, 24, 25, 30, 31, 32,
        -30, -31, 39, 40, 41, 60, 63, 64, 99, 100, 120, 121, 128, 255, 256, 400, 500, 600, 999, 1000, 4095, 4096, 32767,
        65536, 1 << 30, Integer.MAX_VALUE, Integer.MIN_VALUE, Integer.MIN_VALUE + 1, -1100000001};
    /** 512 calls may make this much together: a small part of the room that all calls of one run have. */
    private static final long MOST_BYTES = 1_000_000;

    private static int wrong;

    private static List<Method> acts() {
        List<Method> all = new ArrayList<>();
        for (Method m : RoomTrees.class.getDeclaredMethods()) {
            if (java.lang.reflect.Modifier.isPublic(m.getModifiers())) {
                all.add(m);
            }
        }
        all.sort(Comparator.comparing(Method::getName));
        return all;
    }

    private static Object argument(Class<?> type, Random random) {
        int turn = random.nextInt(4);
        int x = turn == 0 ? EDGES[random.nextInt(EDGES.length)] : turn == 1 ? random.nextInt() : random.nextInt(12);
        if (type == long.class) {
            return random.nextBoolean() ? 0x29292831282d3028L : (long) x << random.nextInt(40);
        }
        return x;
    }

    private static int call(RoomTrees x, Method m, Object[] args) throws IllegalAccessException {
        try {
            return (Integer) m.invoke(x, args);
        } catch (InvocationTargetException e) {
            wrong++;
            System.out.println(m.getName() + Arrays.toString(args) + " threw " + e.getCause());
            return 0;
        }
    }

    private static void play(long seed, int calls) throws IllegalAccessException {
        Random random = new Random(seed);
        List<Method> acts = acts();
        RoomTrees one = new RoomTrees();
        RoomTrees other = new RoomTrees();
        for (int i = 0; i < calls && wrong == 0; i++) {
            Method m = acts.get(random.nextInt(acts.size()));
            Object[] args = new Object[m.getParameterCount()];
            for (int k = 0; k < args.length; k++) {
                args[k] = argument(m.getParameterTypes()[k], random);
            }
            int answer = call(one, m, args);
            if (call(other, m, args) != answer) {
                wrong++;
                System.out.println(m.getName() + Arrays.toString(args) + " has two answers");
            }
            if (random.nextInt(30) == 0) {
                one.vertex(i % 3 - 1);
                other.vertex(i % 3 - 1);
            }
        }
    }

    private interface Call {
        void on(RoomTrees x);
    }

    private static void small(String what, String woods, Call call) {
        com.sun.management.ThreadMXBean bean = (com.sun.management.ThreadMXBean) ManagementFactory.getThreadMXBean();
        long before = bean.getThreadAllocatedBytes(Thread.currentThread().getId());
        RoomTrees x = new RoomTrees();
        for (int i = 0; i < woods.length(); i++) {
            x.feed(woods.charAt(i), 1);
        }
        x.forest();
        x.keep(0);
        for (int kind = 0; kind < 6; kind++) {
            x.worker(kind, 0);
        }
        x.vertex(0);
        for (int i = 0; i < 512; i++) {
            call.on(x);
        }
        long made = bean.getThreadAllocatedBytes(Thread.currentThread().getId()) - before;
        if (made > MOST_BYTES) {
            wrong++;
            System.out.println("512 calls of " + what + " make " + made + " bytes");
        }
    }

    public static void main(String[] args) throws IllegalAccessException {
        for (int run = 0; run < 200; run++) {
            play(run, 512);
        }
        for (int run = 0; run < 5; run++) {
            play(1000 + run, 20000);
        }
        String ones = "(1)(1)(1)(1)(1)(1)(1)(1)(1)(1)(1)";
        String star = "(1(2)(3)(4)(5)(6)(7)(8)(9)(10)(11))";
        small("fewest", ones, x -> x.fewest(4, 0));
        small("reach", ones, x -> x.reach(0, 3));
        small("least", star, x -> x.least(0));
        small("alike", star, x -> x.alike(0));
        small("best", ones, x -> x.best(0));
        small("work and keep", ones, x -> {
            x.fetch(0);
            x.work(1, 12);
            x.keep(1);
        });
        small("image and restore", star, x -> {
            x.image();
            x.restore();
        });
        small("sheets", star, x -> {
            x.sheet(0, 32, 24);
            x.book(0);
            x.plays(0, 1);
        });
        small("tables", star, x -> {
            x.link(0, 1, 0);
            x.inertia(0);
            x.wu(1);
            x.mu();
        });
        System.out.println(wrong == 0 ? "every call answers" : "not every call answers");
        if (wrong != 0) {
            System.exit(1);
        }
    }
}
