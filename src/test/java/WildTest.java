import com.sun.management.ThreadMXBean;
import java.lang.management.ManagementFactory;
import java.lang.reflect.InvocationTargetException;
import java.lang.reflect.Method;
import java.util.ArrayList;
import java.util.Arrays;
import java.util.Comparator;
import java.util.List;
import java.util.NoSuchElementException;
import java.util.Random;

/**
 * Calls with any arguments, far more than an object is promised to stand: no
 * exception but those of the document, the same answers for the same calls,
 * and little made by all calls of a run.
 */
public final class WildTest {
    private static final Check CHECK = new Check();
    private static final int[] EDGES = {0, 1, -1, 2, 3, 4, 5, 6, 7, 8, 9, 10, 12, 13, 16, 18, 19, 31, 32, 40, 60, 63,
        64, 97, 100, 126, 127, 250, 251, 255, 256, 999, 1000, 1001, 1002, 2001, 3001, 3250, 3251, 4001, -2, -1000,
        Integer.MAX_VALUE, Integer.MIN_VALUE, Integer.MAX_VALUE - 1, 1 << 30};

    public static void main(String[] args) throws ReflectiveOperationException {
        long seen = 0;
        for (int seed = 0; seed < 40; seed++) {
            long first = run(new AccordHouse(), seed, 6000);
            seen += first;
            if (seed % 10 == 0) {
                CHECK.due("the same answers again", run(new AccordHouse(), seed, 6000), first);
            }
        }
        CHECK.due("answers were not all the same", seen != 0, true);
        aloneInItsRoom();
        littleIsMade();
        CHECK.end();
    }

    private static List<Method> face() {
        List<Method> face = new ArrayList<>(Arrays.asList(AccordHouse.class.getDeclaredMethods()));
        face.removeIf(method -> !java.lang.reflect.Modifier.isPublic(method.getModifiers()));
        face.sort(Comparator.comparing(Method::getName));
        return face;
    }

    private static long run(AccordHouse house, int seed, int calls) throws ReflectiveOperationException {
        Random random = new Random(seed);
        List<Method> face = face();
        Check.kind(house, "LSCBAT");
        Check.kind(house, "MTL");
        house.act(0, 0, 0, 0, 0, 0);
        house.act(1, 0, 0, 0, 1, 0);
        long sum = 0;
        for (int i = 0; i < calls; i++) {
            Method method = random.nextInt(3) == 0 ? acts() : face.get(random.nextInt(face.size()));
            sum = 31 * sum + answer(house, method, given(method, random));
        }
        return sum;
    }

    private static Method acts() throws NoSuchMethodException {
        return AccordHouse.class.getMethod("act", int.class, int.class, int.class, int.class, int.class, int.class);
    }

    private static Object[] given(Method method, Random random) {
        Class<?>[] types = method.getParameterTypes();
        Object[] given = new Object[types.length];
        for (int i = 0; i < types.length; i++) {
            int edge = random.nextInt(4) > 0 ? random.nextInt(7) - 1 : EDGES[random.nextInt(EDGES.length)];
            if (types[i] == boolean.class) {
                given[i] = random.nextInt(5) == 0;
            } else if (types[i] == long.class) {
                given[i] = random.nextInt(8) == 0 ? random.nextLong() : 0x4C53434241544D4CL + random.nextInt(3);
            } else {
                given[i] = method.getName().equals("act") && i == 1 ? random.nextInt(20) : edge;
            }
        }
        return given;
    }

    private static long answer(AccordHouse house, Method method, Object[] given) throws IllegalAccessException {
        try {
            Object answer = method.invoke(house, given);
            return answer instanceof Boolean yes ? (yes ? 1 : 0) : (Integer) answer;
        } catch (InvocationTargetException e) {
            Throwable thrown = e.getCause();
            boolean due = Arrays.asList(method.getExceptionTypes()).contains(thrown.getClass());
            if (!due) {
                CHECK.dueText(method.getName() + Arrays.toString(given), thrown.toString(), "an answer");
                thrown.printStackTrace(System.out);
            }
            return thrown instanceof NoSuchElementException ? 77 : 78;
        }
    }

    /** Two objects know nothing of one another. */
    private static void aloneInItsRoom() {
        AccordHouse one = new AccordHouse();
        AccordHouse other = new AccordHouse();
        Check.kind(one, "L");
        one.act(0, 0, 0, 0, 0, 0);
        CHECK.due("no kind of the other", other.total(0), 0);
        CHECK.due("no row of the other", other.total(4), 0);
    }

    /** Half of what a room holds would be some 30 million bytes. */
    private static void littleIsMade() {
        ThreadMXBean bean = (ThreadMXBean) ManagementFactory.getThreadMXBean();
        long thread = Thread.currentThread().getId();
        busyRun();
        long ahead = bean.getThreadAllocatedBytes(thread);
        busyRun();
        long made = bean.getThreadAllocatedBytes(thread) - ahead;
        System.out.println(made + " bytes are made in a busy run");
        CHECK.due("bytes made in a busy run are few", made < 2_000_000, true);
    }

    private static void busyRun() {
        AccordHouse house = new AccordHouse();
        Check.kind(house, "LSCBAT");
        house.act(0, 0, 0, 0, 0, 0);
        for (int i = 0; i < 60; i++) {
            int node = i % 4;
            house.type(0x6162636465666768L + i % 5, 8);
            house.type(0x6162636465666768L + i % 7, 8);
            house.commit(node, 1, 5);
            house.was(node, i, 1, 5, -1);
            house.size(node, 1, 5);
            house.send(node, (node + 1) % 4, false);
            house.octet(0, -1);
            house.twice(0);
            house.deliver(0);
            house.join((node + 1) % 4, node);
        }
    }
}
