import java.lang.reflect.Array;
import java.lang.reflect.Field;
import java.lang.reflect.InvocationTargetException;
import java.lang.reflect.Method;
import java.lang.reflect.Modifier;
import java.util.ArrayList;
import java.util.Arrays;
import java.util.Comparator;
import java.util.IdentityHashMap;
import java.util.List;
import java.util.Map;
import java.util.Random;
import java.util.Set;

/**
 * An object's life: "An object is used for at most 512 calls after it has been made" (What it is), no call
 * throws or fails to end whatever its arguments (LANGUAGE.md, rule 7), and the room that objects take.
 */
public final class LifeTest {
    private static final int CALLS = 512;
    private static final int WILD_OBJECTS = 60;
    private static final int WILD_CALLS = 3000;
    // All calls of one run live in a room of 600,000 objects and 7.3 million fields and elements: some 900
    // objects of the class have room in it.
    private static final int MOST_OBJECTS = 600;
    private static final int MOST_ELEMENTS = 8000;
    private static final Set<String> DOES_MORE = Set.of("feed", "end", "store", "does", "undo", "anew", "image",
            "back", "row", "write", "paste");
    private static final int[] EDGES = {Integer.MIN_VALUE, Integer.MIN_VALUE + 1, -1000, -2, -1, 0, 1, 2, 3, 4, 5,
        6, 7, 8, 9, 10, 11, 19, 20, 21, 30, 31, 32, 33, 39, 40, 41, 59, 60, 61, 63, 64, 65, 255, 256, 257,
        680, 700, 701, 1999999990, 2000000000, 2000000001, Integer.MAX_VALUE - 1, Integer.MAX_VALUE};
    private static int wrong = 0;

    private static void mustHold(boolean holds, String what) {
        if (!holds) {
            wrong++;
            System.out.println(what);
        }
    }

    public static void main(String[] args) throws Exception {
        askingChangesNothing();
        wildCalls();
        room();
        System.out.println(wrong == 0 ? "objects live as they should" : wrong + " do not hold");
        if (wrong != 0) {
            System.exit(1);
        }
    }

    private static List<Method> methods() {
        List<Method> found = new ArrayList<>();
        for (Method method : CopyWhileRun.class.getMethods()) {
            if (method.getDeclaringClass() == CopyWhileRun.class) {
                found.add(method);
            }
        }
        found.sort(Comparator.comparing(Method::getName));
        return found;
    }

    private static Object[] arguments(Random random, Method method, int most) {
        Object[] found = new Object[method.getParameterCount()];
        for (int i = 0; i < found.length; i++) {
            int number = random.nextInt(3) == 0 ? EDGES[random.nextInt(EDGES.length)] : random.nextInt(most);
            found[i] = method.getParameterTypes()[i] == long.class ? (Object) (long) number : (Object) number;
        }
        return found;
    }

    private static long ask(CopyWhileRun x, Method method, Object[] arguments) throws Exception {
        try {
            return ((Number) method.invoke(x, arguments)).longValue();
        } catch (InvocationTargetException e) {
            mustHold(false, method.getName() + Arrays.toString(arguments) + " throws " + e.getCause());
            return 0;
        }
    }

    /** A store with as many events told as there can be, and some acts behind them. */
    private static CopyWhileRun full(int law, int most) {
        CopyWhileRun x = Sentences.tell("store cells 32 law " + law + " odds 3;set 0 7;add 31 9;full;scan 3;swap 0 31;"
                + "fill 4 9 2;scan 2;finish;part;set 5 1;tear;part;fill 0 7 1;finish;"
                + "set 9 9;full;tear;part;scan 1;finish;".repeat(4) + "add 3 250;part;");
        int[][] acts = {{0, 8, 8, 0}, {6, 2, 0, 0}, {1, 7, 3, 0}, {7, 0, 0, 0}, {5, 0, 0, 0}};
        for (int i = 0; i < most; i++) {
            int[] act = acts[i % 5];
            x.does(act[0], act[1], act[2], act[3]);
        }
        Sentences.fill(x, 0, 1, 40 + most, 8, 8);
        mustHold(x.count(3) == 40 && x.count(4) == most, "the store is not as full as it should be");
        return x;
    }

    /** What only asks changes nothing: the last of some 512 calls answer as if they were the first. */
    private static void askingChangesNothing() throws Exception {
        List<Method> asking = methods();
        asking.removeIf(method -> DOES_MORE.contains(method.getName()));
        Random random = new Random(1);
        for (int n = 0; n < 8; n++) {
            int law = n % 4;
            // Without acts nothing at all has been asked of the other object.
            int acts = n < 4 ? 0 : 20;
            for (Method last : asking) {
                CopyWhileRun used = full(law, acts);
                // To tell the store, and the eight questions behind, take fewer than 72 calls.
                for (int i = 72; i < CALLS; i++) {
                    Method method = asking.get(random.nextInt(asking.size()));
                    if (!method.getName().equals("share")) {
                        ask(used, method, arguments(random, method, 61));
                    }
                }
                for (int i = 0; i < 8; i++) {
                    Object[] arguments = arguments(random, last, i < 4 ? 3 : 40);
                    long due = ask(full(law, acts), last, arguments);
                    long got = ask(used, last, arguments);
                    mustHold(got == due, "law " + law + ", " + acts + " acts: " + last.getName() + Arrays.toString(arguments)
                            + " answered " + got + ", and " + due + " on an object not asked before");
                }
            }
        }
    }

    /** Calls of any kind with any arguments, far beyond 512: none throws, each ends. */
    private static void wildCalls() throws Exception {
        List<Method> all = methods();
        for (int n = 0; n < WILD_OBJECTS; n++) {
            Random random = new Random(n);
            CopyWhileRun x = n % 3 == 0 ? new CopyWhileRun() : full(n % 4, n % 21);
            for (int i = 0; i < WILD_CALLS; i++) {
                Method method = all.get(random.nextInt(all.size()));
                boolean ends = Set.of("store", "back", "anew").contains(method.getName());
                if (!ends || random.nextInt(20) == 0) {
                    ask(x, method, arguments(random, method, 1 + random.nextInt(70)));
                }
            }
        }
    }

    /** What an object holds, and that calls add nothing to it. */
    private static void room() throws Exception {
        CopyWhileRun x = new CopyWhileRun();
        long[] made = held(x);
        mustHold(made[0] <= MOST_OBJECTS, "objects and arrays of one object: " + made[0]);
        mustHold(made[1] <= MOST_ELEMENTS, "fields and elements of one object: " + made[1]);
        long[] used = held(full(2, 20));
        mustHold(Arrays.equals(made, used), "held by a new object " + Arrays.toString(made)
                + ", by a used one " + Arrays.toString(used));
    }

    /** How many objects and arrays, and how many fields and elements these have. */
    private static long[] held(Object root) throws Exception {
        Map<Object, Boolean> seen = new IdentityHashMap<>();
        List<Object> open = new ArrayList<>(List.of(root));
        long elements = 0;
        while (!open.isEmpty()) {
            Object one = open.remove(open.size() - 1);
            if (one == null || seen.put(one, true) != null) {
                continue;
            }
            if (one.getClass().isArray()) {
                elements += Array.getLength(one);
                for (int i = 0; i < Array.getLength(one) && one instanceof Object[]; i++) {
                    open.add(Array.get(one, i));
                }
                continue;
            }
            for (Field field : one.getClass().getDeclaredFields()) {
                if (!Modifier.isStatic(field.getModifiers())) {
                    elements++;
                    field.setAccessible(true);
                    if (!field.getType().isPrimitive()) {
                        open.add(field.get(one));
                    }
                }
            }
        }
        return new long[] {seen.size(), elements};
    }
}
