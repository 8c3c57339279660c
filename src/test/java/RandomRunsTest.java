import java.lang.reflect.InvocationTargetException;
import java.lang.reflect.Method;
import java.math.BigInteger;
import java.util.ArrayDeque;
import java.util.ArrayList;
import java.util.Arrays;
import java.util.Collections;
import java.util.Comparator;
import java.util.Deque;
import java.util.HashMap;
import java.util.HashSet;
import java.util.LinkedHashMap;
import java.util.List;
import java.util.Map;
import java.util.Random;
import java.util.Set;
import java.util.TreeMap;
import java.util.TreeSet;
import java.util.function.IntUnaryOperator;
import java.util.regex.Matcher;
import java.util.regex.Pattern;

/** Random runs of calls; each answer is compared with that of a model written apart from the class. */
public final class RandomRunsTest {
    private static final int RUNS = 500;
    private static final int CALLS = 400;

    public static void main(String[] args) throws Exception {
        Map<String, Integer> good = new TreeMap<>();
        int wrong = 0;
        for (int run = 0; run < RUNS && wrong < 20; run++) {
            wrong += oneRun(run, good);
        }
        for (Method method : facedMethods()) {
            if (good.getOrDefault(method.getName(), 0) < 50) {
                wrong++;
                System.out.println(method.getName() + " was hardly answered but by refusals");
            }
        }
        System.out.println(wrong == 0 ? "random runs: all answers are as due" : wrong + " wrong");
        if (wrong != 0) {
            System.exit(1);
        }
    }

    private static List<Method> facedMethods() {
        List<Method> methods = new ArrayList<>();
        for (Method method : CopyWhileRun.class.getMethods()) {
            if (method.getDeclaringClass() == CopyWhileRun.class) {
                methods.add(method);
            }
        }
        methods.sort(Comparator.comparing(Method::getName));
        return methods;
    }

    private static int oneRun(int run, Map<String, Integer> good) throws Exception {
        Random random = new Random(run);
        CopyWhileRun real = new CopyWhileRun();
        Model model = new Model();
        List<Method> methods = facedMethods();
        int wrong = 0;
        int calls = 0;
        if (random.nextInt(20) != 0) {
            calls += tell(real, model, Texts.store(random));
        }
        while (calls < CALLS) {
            if (random.nextInt(60) == 0) {
                String text = Texts.store(random);
                calls += tell(real, model, random.nextBoolean() ? text : Texts.spoil(random, text));
                wrong += compare(run, real, model, "fault", 0);
                wrong += compare(run, real, model, "fault", 1);
            }
            if (random.nextInt(12) == 0) {
                wrong += fillSeen(run, random, real, model);
            }
            Method method = methods.get(random.nextInt(methods.size()));
            String name = method.getName();
            boolean rare = name.equals("store") || name.equals("anew") || name.equals("back");
            if (rare && random.nextInt(4) != 0 || name.equals("share") && random.nextInt(3) != 0) {
                continue;
            }
            calls++;
            Object[] arguments = Arguments.of(random, method, model);
            Object got = method.invoke(real, arguments);
            Object due = invokeModel(model, method, arguments);
            if (((Number) due).longValue() != -2 && ((Number) due).longValue() != -1000) {
                good.merge(name, 1, Integer::sum);
            }
            if (!got.equals(due)) {
                wrong++;
                System.out.println("run " + run + " " + name + Arrays.toString(arguments)
                        + " answered " + got + ", due is " + due);
            }
        }
        return wrong;
    }

    private static Object invokeModel(Model model, Method method, Object[] arguments) throws Exception {
        try {
            return Model.class.getMethod(method.getName(), method.getParameterTypes())
                    .invoke(model, arguments);
        } catch (InvocationTargetException e) {
            throw new IllegalStateException(method.getName() + Arrays.toString(arguments), e.getCause());
        }
    }

    private static int compare(int run, CopyWhileRun real, Model model, String name, int argument)
            throws Exception {
        Method method = CopyWhileRun.class.getMethod(name, int.class);
        Object got = method.invoke(real, argument);
        Object due = invokeModel(model, method, new Object[] {argument});
        if (got.equals(due)) {
            return 0;
        }
        System.out.println("run " + run + " " + name + "(" + argument + ") answered " + got
                + ", due is " + due);
        return 1;
    }

    /** Feeds a text to both, and makes it the store; tells how many calls that took. */
    private static int tell(CopyWhileRun real, Model model, String text) {
        real.end(0);
        model.end(0);
        int calls = 0;
        for (int i = 0; i < text.length(); i += 20) {
            int[] five = new int[5];
            for (int k = 0; k < 20; k++) {
                int sign = i + k < text.length() ? text.charAt(i + k) : ' ';
                five[k / 4] = five[k / 4] << 8 | sign & 255;
            }
            real.feed(five[0], five[1], five[2], five[3], five[4]);
            model.feed(five[0], five[1], five[2], five[3], five[4]);
            calls++;
        }
        real.end(text.length());
        model.end(text.length());
        int got = real.store();
        int due = model.store();
        if (got != due) {
            throw new IllegalStateException("store() answered " + got + ", due is " + due + ": " + text);
        }
        return calls + 3;
    }

    /** A row of what is seen, mostly as one event left out would show it. */
    private static int fillSeen(int run, Random random, CopyWhileRun real, Model model) throws Exception {
        if (model.cells == 0) {
            return 0;
        }
        int slot = random.nextInt(4);
        int width = random.nextInt(4);
        int n = 3 * random.nextInt(5);
        Set<Integer> out = new HashSet<>();
        if (model.told > 0 && random.nextInt(4) != 0) {
            out.add(random.nextInt(model.told));
        }
        World world = model.world(out, model.scanLaw);
        real.row(slot, width, n);
        model.row(slot, width, n);
        for (int i = 0; i + 2 < n; i += 3) {
            int tick = random.nextInt(model.events.size() + 1);
            int cell = random.nextInt(model.cells);
            int seen = random.nextInt(12) == 0 ? random.nextInt(256) : world.values.get(tick)[cell];
            int[] three = {tick, cell, seen};
            for (int k = 0; k < 3; k++) {
                real.write(slot, i + k, three[k]);
                model.write(slot, i + k, three[k]);
            }
        }
        int wrong = compare(run, real, model, "may", slot) + compare(run, real, model, "plain", slot);
        return wrong + compare(run, real, model, "which", slot);
    }

    /** Texts of stores. */
    private static final class Texts {
        static String store(Random random) {
            if (random.nextInt(40) == 0) {
                return random.nextBoolean() ? "" : " \n ";
            }
            int cells = random.nextInt(3) == 0 ? 32 : 2 + random.nextInt(random.nextBoolean() ? 4 : 31);
            StringBuilder text = new StringBuilder("store cells " + cells + " law " + random.nextInt(4)
                    + " odds " + random.nextInt(11) + ";");
            int events = random.nextInt(4) == 0 ? 40 : random.nextInt(40);
            for (int i = 0; i < events; i++) {
                String line = line(random, cells);
                if (text.length() + line.length() < 690) {
                    text.append(line);
                }
            }
            return text.toString();
        }

        private static String line(Random random, int cells) {
            int c = random.nextInt(cells);
            int v = random.nextInt(3) == 0 ? random.nextInt(256) : random.nextInt(3);
            switch (random.nextInt(13)) {
                case 0:
                case 1:
                    return "set " + c + " " + v + ";";
                case 2:
                    return "add " + c + " " + v + ";";
                case 3:
                    return "swap " + c + " " + (c + 1 + random.nextInt(cells - 1)) % cells + ";";
                case 4:
                    return "fill " + c + " " + (c + random.nextInt(cells - c)) + " " + v + ";";
                case 5:
                    return "full;";
                case 6:
                case 7:
                    return "part;";
                case 8:
                case 9:
                    return "scan " + (1 + random.nextInt(random.nextBoolean() ? 3 : 32)) + ";";
                case 10:
                case 11:
                    return "finish;";
                default:
                    return "tear;";
            }
        }

        static String spoil(Random random, String text) {
            if (text.isEmpty()) {
                return random.nextBoolean() ? ";" : "full;";
            }
            int at = random.nextInt(text.length());
            switch (random.nextInt(7)) {
                case 0:
                    return text.substring(0, at);
                case 1:
                    return text.substring(0, at) + text.substring(at + 1);
                case 2:
                    return cut(text.substring(0, at) + (char) random.nextInt(256) + text.substring(at));
                case 3:
                    return text.substring(0, at) + random.nextInt(10) + text.substring(at + 1);
                case 4:
                    return cut(text.replace(";", " ;\n"));
                case 5:
                    return cut(text + "full;tear;full;tear;full;tear;full;tear;full;tear;full;tear;");
                default:
                    return text.substring(0, at) + (char) ('a' + random.nextInt(26))
                            + text.substring(at + 1);
            }
        }

        private static String cut(String text) {
            return text.length() > 700 ? text.substring(0, 700) : text;
        }
    }

    /** Arguments that mostly are there, and at times are not. */
    private static final class Arguments {
        static Object[] of(Random random, Method method, Model model) {
            String name = method.getName();
            Class<?>[] types = method.getParameterTypes();
            Object[] arguments = new Object[types.length];
            for (int i = 0; i < types.length; i++) {
                int most = random.nextInt(25) == 0 ? -1 : most(name, i, model);
                long number;
                if (most < 0) {
                    int[] edges = {-1, -2, 2, 5, 7, 31, 32, 33, 60, 61, 255, 256, Integer.MAX_VALUE,
                        Integer.MIN_VALUE, random.nextInt()};
                    number = edges[random.nextInt(edges.length)];
                } else {
                    number = random.nextInt(most + 2) - (random.nextInt(10) == 0 ? 1 : 0);
                }
                arguments[i] = types[i] == long.class ? (Object) number : (Object) (int) number;
            }
            if (name.equals("does") && random.nextInt(10) != 0) {
                mend(random, arguments, model);
            }
            return arguments;
        }

        private static void mend(Random random, Object[] arguments, Model model) {
            if (model.cells == 0) {
                return;
            }
            int kind = random.nextInt(9);
            int c = random.nextInt(model.cells);
            int d = (c + 1 + random.nextInt(model.cells - 1)) % model.cells;
            int v = random.nextInt(256);
            int[][] numbers = {{c, v, 0}, {c, v, 0}, {c, d, 0}, {Math.min(c, d), Math.max(c, d), v}, {0, 0, 0},
                {0, 0, 0}, {1 + random.nextInt(32), 0, 0}, {0, 0, 0}, {0, 0, 0}};
            arguments[0] = kind;
            for (int i = 0; i < 3; i++) {
                arguments[i + 1] = numbers[kind][i];
            }
        }

        private static int most(String name, int i, Model model) {
            int ticks = model.events.size();
            int events = Math.max(0, ticks - 1);
            int cells = Math.max(0, model.cells - 1);
            switch (name) {
                case "feed":
                    return -1;
                case "end":
                    return model.tape.size();
                case "event":
                    return i == 0 ? events : 3;
                case "fault":
                    return 1;
                case "refused":
                case "changes":
                case "saves":
                    return events;
                case "value":
                case "latest":
                case "dirty":
                case "raised":
                case "restored":
                case "source":
                    return i == 0 ? cells : ticks;
                case "region":
                    return i == 0 ? 5 : i == 1 ? 8 : ticks;
                case "regions":
                    return i == 0 ? 5 : ticks;
                case "copy":
                    return i == 0 ? 6 : 6;
                case "kept":
                case "saved":
                    return i == 0 ? 6 : cells;
                case "order":
                    return i == 0 ? 6 : 20;
                case "linked":
                    return i == 0 ? ticks : 3;
                case "pace":
                    return 20;
                case "may":
                case "which":
                case "plain":
                case "by":
                    return 3;
                case "worth":
                    return 255;
                case "share":
                    return i == 0 ? 7 : 1;
                case "rests":
                case "gets":
                    return i < 2 ? Math.max(0, model.told - 1) : 1;
                case "chance":
                    return i == 0 ? cells : i == 1 ? 6 : 1;
                case "mean":
                    return i == 0 ? 6 : 1;
                case "does":
                    return i == 0 ? 8 : 32;
                case "drawn":
                    return i == 0 ? 2000000000 : 1;
                case "luck":
                    return i == 0 ? 2000000000 : i == 1 ? 20 : cells;
                case "count":
                    return 7;
                case "image":
                case "back":
                    return 2;
                case "row":
                    return i == 0 ? 3 : i == 1 ? 3 : 60;
                case "write":
                    return i == 0 ? 3 : i == 1 ? 20 : 300;
                case "paste":
                    return i == 0 || i == 2 ? 3 : 12;
                default:
                    return ticks;
            }
        }
    }

    /** A copy of the model. */
    private static final class Kept {
        int mark;
        int state;
        int end = -1;
        boolean full;
        Set<Integer> wants = new TreeSet<>();
        Deque<Integer> queue = new ArrayDeque<>();
        Map<Integer, Integer> content = new LinkedHashMap<>();
        Map<Integer, Integer> keptAtTick = new HashMap<>();
        Set<Integer> saved = new HashSet<>();

        int keptBy(int tick) {
            int n = 0;
            for (int at : keptAtTick.values()) {
                if (at <= tick) {
                    n++;
                }
            }
            return n;
        }

        boolean wholeBy(int tick) {
            return state == 1 && end <= tick;
        }

        boolean tornBy(int tick) {
            return state == 2 && end <= tick;
        }

        boolean begunBy(int tick) {
            return mark < tick;
        }

        boolean openAt(int tick) {
            return begunBy(tick) && (end == -1 || end > tick);
        }
    }

    /** All that happens when some events are left out. */
    private static final class World {
        final List<int[]> values = new ArrayList<>();
        final List<Set<Integer>> changed = new ArrayList<>();
        final List<Integer> refused = new ArrayList<>();
        final List<Kept> copies = new ArrayList<>();
        final int cells;

        World(int cells, List<int[]> events, Set<Integer> out, int law) {
            this.cells = cells;
            values.add(new int[cells]);
            for (int e = 0; e < events.size(); e++) {
                int[] next = values.get(e).clone();
                int reason = 0;
                Set<Integer> changes = new TreeSet<>();
                if (!out.contains(e)) {
                    int[] event = events.get(e);
                    if (event[0] < 4) {
                        command(event, next);
                        for (int c = 0; c < cells; c++) {
                            if (next[c] != values.get(e)[c]) {
                                changes.add(c);
                            }
                        }
                        rescue(e, changes);
                    } else {
                        reason = copyEvent(e, event, law);
                    }
                }
                values.add(next);
                changed.add(changes);
                refused.add(reason);
            }
        }

        static void command(int[] event, int[] on) {
            switch (event[0]) {
                case 0:
                    on[event[1]] = event[2];
                    break;
                case 1:
                    on[event[1]] = on[event[1]] + event[2] & 255;
                    break;
                case 2:
                    int was = on[event[1]];
                    on[event[1]] = on[event[2]];
                    on[event[2]] = was;
                    break;
                default:
                    Arrays.fill(on, event[1], event[2] + 1, event[3]);
            }
        }

        private Kept openNow() {
            Kept last = copies.isEmpty() ? null : copies.get(copies.size() - 1);
            return last == null || last.state != 0 ? null : last;
        }

        private void rescue(int e, Set<Integer> changes) {
            Kept open = openNow();
            if (open == null) {
                return;
            }
            for (int c : changes) {
                if (open.queue.remove((Integer) c)) {
                    open.content.put(c, values.get(e)[c]);
                    open.keptAtTick.put(c, e + 1);
                    open.saved.add(c);
                }
            }
        }

        private int copyEvent(int e, int[] event, int law) {
            Kept open = openNow();
            if (event[0] <= 5) {
                if (open != null) {
                    return 1;
                }
                if (event[0] == 5 && copies.stream().noneMatch(k -> k.state == 1)) {
                    return 3;
                }
                begin(e, event[0] == 4, law);
                return 0;
            }
            if (open == null) {
                return 2;
            }
            if (event[0] == 8) {
                open.state = 2;
                open.end = e + 1;
                return 0;
            }
            int most = event[0] == 6 ? event[1] : Integer.MAX_VALUE;
            for (int i = 0; i < most && !open.queue.isEmpty(); i++) {
                int c = open.queue.removeFirst();
                open.content.put(c, values.get(e)[c]);
                open.keptAtTick.put(c, e + 1);
            }
            if (event[0] == 7) {
                open.state = 1;
                open.end = e + 1;
            }
            return 0;
        }

        /** A cell that changes leaves the queue, so its order holds from the beginning on. */
        private void begin(int e, boolean full, int law) {
            Kept kept = new Kept();
            kept.mark = e;
            kept.full = full;
            for (int c = 0; c < cells; c++) {
                if (full || dirty(c, e)) {
                    kept.wants.add(c);
                }
            }
            List<Integer> line = new ArrayList<>(kept.wants);
            if (law == 1) {
                Collections.reverse(line);
            } else if (law == 2) {
                line.sort(Comparator.comparingInt(c -> -latest(c, e)));
            } else if (law == 3) {
                line.sort(Comparator.comparingInt(c -> c & 1));
            }
            kept.queue.addAll(line);
            copies.add(kept);
        }

        int latest(int cell, int tick) {
            for (int e = tick - 1; e >= 0; e--) {
                if (changed.get(e).contains(cell)) {
                    return e;
                }
            }
            return -1;
        }

        boolean dirty(int cell, int tick) {
            int from = 0;
            for (Kept kept : copies) {
                if (kept.wholeBy(tick)) {
                    from = kept.mark;
                }
            }
            return latest(cell, tick) >= from;
        }

        int dirties(int tick) {
            int n = 0;
            for (int c = 0; c < cells; c++) {
                n += dirty(c, tick) ? 1 : 0;
            }
            return n;
        }

        List<Integer> chain(int tick) {
            List<Integer> links = new ArrayList<>();
            for (int i = 0; i < copies.size(); i++) {
                if (copies.get(i).wholeBy(tick)) {
                    if (copies.get(i).full) {
                        links.clear();
                    }
                    links.add(i);
                }
            }
            return links;
        }

        int chainMark(int tick) {
            List<Integer> links = chain(tick);
            return links.isEmpty() ? 0 : copies.get(links.get(links.size() - 1)).mark;
        }

        int wholeCells() {
            return copies.stream().filter(k -> k.state == 1).mapToInt(k -> k.content.size()).sum();
        }
    }

    /** What an image keeps. */
    private record Image(int cells, int scanLaw, int odds, int told, List<int[]> events) {
    }

    /** The document said once more, with Java's library, and without care for speed. */
    public static final class Model {
        private static final List<String> WORDS =
                List.of("set", "add", "swap", "fill", "full", "part", "scan", "finish", "tear");
        private static final List<String> SHAPES = List.of("CV", "CV", "CS", "CFV", "", "", "N", "", "");

        List<Integer> tape = new ArrayList<>();
        int cells;
        int scanLaw;
        int odds;
        int told;
        List<int[]> events = new ArrayList<>();
        private int fault;
        private int place = -1;
        private final Image[] images = new Image[3];
        private final Object[] rows = new Object[4];

        World world(Set<Integer> out, int law) {
            return new World(cells, events, out, law);
        }

        private World plainWorld() {
            return world(Set.of(), scanLaw);
        }

        private boolean none() {
            return cells == 0;
        }

        private boolean noTick(int tick) {
            return none() || tick < 0 || tick > events.size();
        }

        private boolean noCell(int cell) {
            return none() || cell < 0 || cell >= cells;
        }

        private boolean noEvent(int event) {
            return none() || event < 0 || event >= events.size();
        }

        public int feed(int a, int b, int c, int d, int e) {
            if (tape.size() > 680) {
                return -1;
            }
            for (int number : new int[] {a, b, c, d, e}) {
                tape.add(number >>> 24);
                tape.add(number >>> 16 & 255);
                tape.add(number >>> 8 & 255);
                tape.add(number & 255);
            }
            return tape.size();
        }

        public int end(int n) {
            if (n < 0 || n > tape.size()) {
                return -1;
            }
            tape = new ArrayList<>(tape.subList(0, n));
            return n;
        }

        private record Token(String text, int at) {
        }

        public int store() {
            StringBuilder text = new StringBuilder();
            tape.forEach(b -> text.append((char) (int) b));
            tape = new ArrayList<>();
            fault = 0;
            place = -1;
            List<Token> tokens = new ArrayList<>();
            Matcher matcher = Pattern.compile("[a-z]+|[0-9]+|[^ \\n]", Pattern.DOTALL).matcher(text);
            while (matcher.find()) {
                tokens.add(new Token(matcher.group(), matcher.start()));
            }
            tokens.add(new Token("", text.length()));
            List<int[]> lines = new ArrayList<>();
            int at = 0;
            while (fault == 0 && !tokens.get(at).text.isEmpty()) {
                at = line(tokens, at, lines);
            }
            if (fault != 0) {
                return -4;
            }
            cells = lines.isEmpty() ? 0 : lines.get(0)[0];
            scanLaw = lines.isEmpty() ? 0 : lines.get(0)[1];
            odds = lines.isEmpty() ? 0 : lines.get(0)[2];
            events = new ArrayList<>(lines.isEmpty() ? lines : lines.subList(1, lines.size()));
            told = events.size();
            return lines.size();
        }

        private int fail(Token token, int what) {
            fault = what;
            place = token.at;
            return 0;
        }

        private int line(List<Token> tokens, int from, List<int[]> lines) {
            int at = from;
            if (lines.isEmpty()) {
                int[] head = new int[3];
                String[] words = {"cells", "law", "odds"};
                int[] low = {2, 0, 0};
                int[] high = {32, 3, 10};
                if (!tokens.get(at).text.equals("store")) {
                    return fail(tokens.get(at), 1);
                }
                at++;
                for (int i = 0; i < 3; i++) {
                    if (!tokens.get(at).text.equals(words[i])) {
                        return fail(tokens.get(at), 1);
                    }
                    BigInteger number = number(tokens.get(at + 1));
                    if (number == null) {
                        return fail(tokens.get(at + 1), 1);
                    }
                    if (!within(number, low[i], high[i])) {
                        return fail(tokens.get(at + 1), 2);
                    }
                    head[i] = number.intValue();
                    at += 2;
                }
                lines.add(head);
            } else {
                int kind = WORDS.indexOf(tokens.get(at).text);
                if (kind < 0) {
                    return fail(tokens.get(at), 1);
                }
                if (lines.size() == 41) {
                    return fail(tokens.get(at), 3);
                }
                at++;
                int[] event = {kind, 0, 0, 0};
                String shape = SHAPES.get(kind);
                for (int i = 0; i < shape.length(); i++) {
                    BigInteger number = number(tokens.get(at));
                    if (number == null) {
                        return fail(tokens.get(at), 1);
                    }
                    if (!fits(shape.charAt(i), number, event[1], lines.get(0)[0])) {
                        return fail(tokens.get(at), 2);
                    }
                    event[i + 1] = number.intValue();
                    at++;
                }
                lines.add(event);
            }
            return tokens.get(at).text.equals(";") ? at + 1 : fail(tokens.get(at), 1);
        }

        private static BigInteger number(Token token) {
            return token.text.matches("[0-9]+") ? new BigInteger(token.text) : null;
        }

        private static boolean within(BigInteger number, int low, int high) {
            return number.compareTo(BigInteger.valueOf(low)) >= 0
                    && number.compareTo(BigInteger.valueOf(high)) <= 0;
        }

        private static boolean fits(char shape, BigInteger number, int first, int cells) {
            switch (shape) {
                case 'C':
                    return within(number, 0, cells - 1);
                case 'S':
                    return within(number, 0, cells - 1) && number.intValue() != first;
                case 'F':
                    return within(number, first, cells - 1);
                case 'N':
                    return within(number, 1, 32);
                default:
                    return within(number, 0, 255);
            }
        }

        public int fault(int what) {
            return what == 0 ? fault : what == 1 ? place : -1;
        }

        public int event(int event, int what) {
            if (noEvent(event) || what < 0 || what > 3) {
                return -2;
            }
            int[] one = events.get(event);
            return what == 0 ? one[0] : what <= SHAPES.get(one[0]).length() ? one[what] : -1;
        }

        public int refused(int event) {
            return noEvent(event) ? -2 : plainWorld().refused.get(event);
        }

        public int value(int cell, int tick) {
            return noCell(cell) || noTick(tick) ? -2 : plainWorld().values.get(tick)[cell];
        }

        public int sum(int tick) {
            return noTick(tick) ? -2 : Arrays.stream(plainWorld().values.get(tick)).sum();
        }

        public int changes(int event) {
            return noEvent(event) ? -2 : plainWorld().changed.get(event).size();
        }

        public int latest(int cell, int tick) {
            return noCell(cell) || noTick(tick) ? -2 : plainWorld().latest(cell, tick);
        }

        public int dirty(int cell, int tick) {
            return noCell(cell) || noTick(tick) ? -2 : plainWorld().dirty(cell, tick) ? 1 : 0;
        }

        public int dirties(int tick) {
            return noTick(tick) ? -2 : plainWorld().dirties(tick);
        }

        private boolean dirtyRegion(World world, int level, int i, int tick) {
            for (int c = i << level; c < i + 1 << level && c < cells; c++) {
                if (world.dirty(c, tick)) {
                    return true;
                }
            }
            return false;
        }

        public int region(int level, int i, int tick) {
            if (noTick(tick) || level < 0 || level > 5 || i < 0 || i >= 32 >> level) {
                return -2;
            }
            return dirtyRegion(plainWorld(), level, i, tick) ? 1 : 0;
        }

        public int regions(int level, int tick) {
            if (noTick(tick) || level < 0 || level > 5) {
                return -2;
            }
            World world = plainWorld();
            int n = 0;
            for (int i = 0; i < 32 >> level; i++) {
                n += dirtyRegion(world, level, i, tick) ? 1 : 0;
            }
            return n;
        }

        public int looks(int tick) {
            return noTick(tick) ? -2 : look(plainWorld(), 5, 0, tick);
        }

        private int look(World world, int level, int i, int tick) {
            if (level == 0 || !dirtyRegion(world, level, i, tick)) {
                return 1;
            }
            return 1 + look(world, level - 1, 2 * i, tick) + look(world, level - 1, 2 * i + 1, tick);
        }

        public int copies(int tick) {
            return noTick(tick) ? -2
                    : (int) plainWorld().copies.stream().filter(k -> k.begunBy(tick)).count();
        }

        private int openIn(World world, int tick) {
            for (int i = 0; i < world.copies.size(); i++) {
                if (world.copies.get(i).openAt(tick)) {
                    return i;
                }
            }
            return -1;
        }

        public int open(int tick) {
            return noTick(tick) ? -2 : openIn(plainWorld(), tick);
        }

        private Kept copyAt(int copy) {
            if (none()) {
                return null;
            }
            List<Kept> all = plainWorld().copies;
            return copy < 0 || copy >= all.size() ? null : all.get(copy);
        }

        public int copy(int copy, int what) {
            Kept kept = copyAt(copy);
            if (kept == null || what < 0 || what > 6) {
                return -2;
            }
            int[] answers = {kept.full ? 1 : 0, kept.mark, kept.state, kept.wants.size(),
                kept.content.size(), kept.saved.size(), kept.end};
            return answers[what];
        }

        public int kept(int copy, int cell) {
            Kept kept = copyAt(copy);
            if (kept == null || noCell(cell)) {
                return -2;
            }
            return kept.state == 2 ? -1 : kept.content.getOrDefault(cell, -1);
        }

        public int saved(int copy, int cell) {
            Kept kept = copyAt(copy);
            return kept == null || noCell(cell) ? -2 : kept.saved.contains(cell) ? 1 : 0;
        }

        public int order(int copy, int i) {
            Kept kept = copyAt(copy);
            if (kept == null || i < 0) {
                return -2;
            }
            List<Integer> line = new ArrayList<>(kept.content.keySet());
            return i < line.size() ? line.get(i) : -1;
        }

        public int waiting(int tick) {
            if (noTick(tick)) {
                return -2;
            }
            World world = plainWorld();
            int open = openIn(world, tick);
            return open < 0 ? -1 : world.copies.get(open).wants.size() - world.copies.get(open).keptBy(tick);
        }

        public int saves(int event) {
            if (noEvent(event)) {
                return -2;
            }
            int n = 0;
            for (Kept kept : plainWorld().copies) {
                for (int c : kept.saved) {
                    n += kept.keptAtTick.get(c) == event + 1 ? 1 : 0;
                }
            }
            return n;
        }

        public int work(int tick) {
            return noTick(tick) ? -2 : plainWorld().copies.stream().mapToInt(k -> k.keptBy(tick)).sum();
        }

        public int wasted(int tick) {
            return noTick(tick) ? -2 : plainWorld().copies.stream().filter(k -> k.tornBy(tick))
                    .mapToInt(k -> k.keptBy(tick)).sum();
        }

        public int chain(int tick) {
            return noTick(tick) ? -2 : plainWorld().chain(tick).size();
        }

        public int linked(int tick, int i) {
            if (noTick(tick) || i < 0) {
                return -2;
            }
            List<Integer> links = plainWorld().chain(tick);
            return i < links.size() ? links.get(i) : -1;
        }

        public int replays(int tick) {
            if (noTick(tick)) {
                return -2;
            }
            return (int) events.subList(plainWorld().chainMark(tick), tick).stream()
                    .filter(e -> e[0] < 4).count();
        }

        private int raisedIn(World world, int cell, int tick) {
            int found = 0;
            for (int link : world.chain(tick)) {
                found = world.copies.get(link).content.getOrDefault(cell, found);
            }
            return found;
        }

        public int raised(int cell, int tick) {
            return noCell(cell) || noTick(tick) ? -2 : raisedIn(plainWorld(), cell, tick);
        }

        public int restored(int cell, int tick) {
            if (noCell(cell) || noTick(tick)) {
                return -2;
            }
            World world = plainWorld();
            int[] on = new int[cells];
            Arrays.setAll(on, c -> raisedIn(world, c, tick));
            events.subList(world.chainMark(tick), tick).stream().filter(e -> e[0] < 4)
                    .forEach(e -> World.command(e, on));
            if (on[cell] != world.values.get(tick)[cell]) {
                throw new IllegalStateException("a chain does not raise what was");
            }
            return on[cell];
        }

        public int doubled(int tick) {
            if (noTick(tick)) {
                return -2;
            }
            World world = plainWorld();
            List<Integer> links = world.chain(tick);
            int n = 0;
            for (int a = 0; a < links.size(); a++) {
                for (int c : world.copies.get(links.get(a)).content.keySet()) {
                    boolean later = false;
                    for (int b = a + 1; b < links.size(); b++) {
                        later |= world.copies.get(links.get(b)).content.containsKey(c);
                    }
                    n += later ? 1 : 0;
                }
            }
            return n;
        }

        public int source(int cell, int tick) {
            if (noCell(cell) || noTick(tick)) {
                return -2;
            }
            World world = plainWorld();
            int found = -1;
            for (int link : world.chain(tick)) {
                found = world.copies.get(link).content.containsKey(cell) ? link : found;
            }
            return found;
        }

        public int age(int tick) {
            return noTick(tick) ? -2 : tick - plainWorld().chainMark(tick);
        }

        public int worst() {
            return none() ? -2 : firstMost(events.size() + 1, this::age);
        }

        private static int firstMost(int n, IntUnaryOperator of) {
            int found = 0;
            for (int i = 1; i < n; i++) {
                found = of.applyAsInt(i) > of.applyAsInt(found) ? i : found;
            }
            return found;
        }

        public int differ(int tick, int other) {
            if (noTick(tick) || noTick(other)) {
                return -2;
            }
            World world = plainWorld();
            int n = 0;
            for (int c = 0; c < cells; c++) {
                n += world.values.get(tick)[c] != world.values.get(other)[c] ? 1 : 0;
            }
            return n;
        }

        public int same(int tick) {
            if (noTick(tick)) {
                return -2;
            }
            World world = plainWorld();
            int at = 0;
            while (!Arrays.equals(world.values.get(at), world.values.get(tick))) {
                at++;
            }
            return at;
        }

        /** The commands with the copies of a pace among them, as a world of its own. */
        private World paced(int e) {
            List<int[]> mixed = new ArrayList<>();
            int n = 0;
            for (int[] event : events) {
                if (event[0] < 4) {
                    if (n % e == 0) {
                        mixed.add(new int[] {n == 0 ? 4 : 5, 0, 0, 0});
                        mixed.add(new int[] {7, 0, 0, 0});
                    }
                    mixed.add(event);
                    n++;
                }
            }
            return new World(cells, mixed, Set.of(), 0);
        }

        public int pace(int e) {
            return none() || e < 1 || e > 20 ? -2 : paced(e).wholeCells();
        }

        public int best() {
            if (none()) {
                return -2;
            }
            return 1 + firstMost(20, i -> {
                World world = paced(i + 1);
                int last = world.values.size() - 1;
                int from = world.chainMark(last);
                // The copy's own two events stand at its mark.
                int replayed = last == 0 ? 0 : last - from - 2;
                return -(world.wholeCells() + 2 * replayed);
            });
        }

        private int[] lastWithout(Set<Integer> out) {
            return world(out, scanLaw).values.get(events.size());
        }

        private static int zeros(int[] values) {
            return (int) Arrays.stream(values).filter(v -> v == 0).count();
        }

        public int blame() {
            if (none()) {
                return -2;
            }
            if (told == 0) {
                return -1;
            }
            int found = firstMost(told, e -> zeros(lastWithout(Set.of(e))));
            return zeros(lastWithout(Set.of(found))) > zeros(lastWithout(Set.of())) ? found : -1;
        }

        public int idle() {
            if (none()) {
                return -2;
            }
            for (int e = 0; e < told; e++) {
                if (events.get(e)[0] < 4 && Arrays.equals(lastWithout(Set.of(e)), lastWithout(Set.of()))) {
                    return e;
                }
            }
            return -1;
        }

        private static int length(Object row) {
            return java.lang.reflect.Array.getLength(row);
        }

        private static long at(Object row, int i) {
            return java.lang.reflect.Array.getLong(row, i);
        }

        private boolean noSlot(int slot) {
            return slot < 0 || slot > 3;
        }

        private int unseen(int slot) {
            if (noSlot(slot) || none()) {
                return -2;
            }
            if (rows[slot] == null) {
                return -6;
            }
            if (length(rows[slot]) % 3 != 0) {
                return -2;
            }
            long[] most = {events.size(), cells - 1, 255};
            for (int i = 0; i < length(rows[slot]); i++) {
                if (at(rows[slot], i) < 0 || at(rows[slot], i) > most[i % 3]) {
                    return -2;
                }
            }
            return 0;
        }

        private boolean seen(int slot, Set<Integer> out) {
            World world = world(out, scanLaw);
            for (int i = 0; i < length(rows[slot]); i += 3) {
                int tick = (int) at(rows[slot], i);
                if (world.values.get(tick)[(int) at(rows[slot], i + 1)] != at(rows[slot], i + 2)) {
                    return false;
                }
            }
            return true;
        }

        private List<Integer> able(int slot) {
            List<Integer> found = new ArrayList<>();
            for (int e = 0; e < told; e++) {
                if (seen(slot, Set.of(e))) {
                    found.add(e);
                }
            }
            return found;
        }

        public int may(int slot) {
            return unseen(slot) != 0 ? unseen(slot) : able(slot).size();
        }

        public int which(int slot) {
            if (unseen(slot) != 0) {
                return unseen(slot);
            }
            List<Integer> found = able(slot);
            return found.isEmpty() ? -1 : found.get(0);
        }

        public int plain(int slot) {
            return unseen(slot) != 0 ? unseen(slot) : seen(slot, Set.of()) ? 1 : 0;
        }

        public int by(int law) {
            return none() || law < 0 || law > 3 ? -2
                    : world(Set.of(), law).copies.stream().mapToInt(k -> k.saved.size()).sum();
        }

        public int law() {
            return none() ? -2 : firstMost(4, l -> -by(l));
        }

        private List<Integer> players() {
            List<Integer> found = new ArrayList<>();
            for (int e = 0; e < 8 && e < told; e++) {
                if (events.get(e)[0] < 4) {
                    found.add(e);
                }
            }
            return found;
        }

        public int worth(int set) {
            if (none() || set < 0 || set > 255) {
                return -2;
            }
            Set<Integer> out = new HashSet<>(players());
            out.removeIf(e -> (set & 1 << e) != 0);
            return cells - zeros(lastWithout(out));
        }

        public int share(int event, int what) {
            List<Integer> all = players();
            if (none() || !all.contains(event) || what < 0 || what > 1) {
                return -1000;
            }
            Map<Integer, Integer> known = new HashMap<>();
            long[] sum = new long[2];
            everyOrder(all, 0, event, known, sum);
            return (int) lowest(sum[0], sum[1], what);
        }

        private void everyOrder(List<Integer> left, int come, int event, Map<Integer, Integer> known,
                long[] sum) {
            if (left.contains(event)) {
                for (int next : left) {
                    List<Integer> others = new ArrayList<>(left);
                    others.remove((Integer) next);
                    if (next == event) {
                        int orders = 1;
                        for (int i = 2; i <= others.size(); i++) {
                            orders *= i;
                        }
                        sum[0] += (long) orders * (known.computeIfAbsent(come | 1 << event, this::worth)
                                - known.computeIfAbsent(come, this::worth));
                        sum[1] += orders;
                    } else {
                        everyOrder(others, come | 1 << next, event, known, sum);
                    }
                }
            }
        }

        private static long lowest(long above, long below, int what) {
            long by = BigInteger.valueOf(above).gcd(BigInteger.valueOf(below)).longValue();
            return (what == 0 ? above : below) / by;
        }

        private boolean noPair(int event, int other) {
            return noEvent(event) || noEvent(other) || event >= told || other >= told || event == other;
        }

        public int rests(int event, int other) {
            if (noPair(event, other)) {
                return -2;
            }
            int found = 0;
            for (int x = 0; x < 2; x++) {
                for (int y = 0; y < 2; y++) {
                    if (gets(event, other, 1 - x, y) <= gets(event, other, x, y)
                            && gets(other, event, 1 - y, x) <= gets(other, event, y, x)) {
                        found += x == 0 ? y == 0 ? 1 : 4 : y == 0 ? 2 : 8;
                    }
                }
            }
            return found;
        }

        public int gets(int event, int other, int x, int y) {
            if (noPair(event, other) || x < 0 || x > 1 || y < 0 || y > 1) {
                return -1000;
            }
            Set<Integer> out = new HashSet<>();
            if (x == 1) {
                out.add(event);
            }
            if (y == 1) {
                out.add(other);
            }
            return world(out, scanLaw).wholeCells() - 3 * x;
        }

        /** Above over ten to the k: how often each cell is dirty. */
        private long[] weights(int k, int from, Set<Integer> out) {
            long[] sum = new long[cells];
            if (from == events.size()) {
                World world = world(out, scanLaw);
                for (int c = 0; c < cells; c++) {
                    sum[c] = world.dirty(c, events.size()) ? 1 : 0;
                }
                return sum;
            }
            Set<Integer> more = new HashSet<>(out);
            more.add(from);
            long[] gone = weights(k, from + 1, more);
            long[] there = weights(k, from + 1, out);
            Arrays.setAll(sum, c -> odds * gone[c] + (10 - odds) * there[c]);
            return sum;
        }

        private boolean noChance(int k, int what) {
            return none() || k < 0 || k > 6 || k > events.size() || what < 0 || what > 1;
        }

        public long chance(int cell, int k, int what) {
            if (noCell(cell) || noChance(k, what)) {
                return -2;
            }
            long above = weights(k, events.size() - k, Set.of())[cell];
            return lowest(above, BigInteger.TEN.pow(k).longValue(), what);
        }

        public long mean(int k, int what) {
            if (noChance(k, what)) {
                return -2;
            }
            long above = Arrays.stream(weights(k, events.size() - k, Set.of())).sum();
            return lowest(above, BigInteger.TEN.pow(k).longValue(), what);
        }

        public int does(int kind, int a, int b, int c) {
            if (none() || kind < 0 || kind > 8) {
                return -2;
            }
            int[] event = {kind, a, b, c};
            String shape = SHAPES.get(kind);
            for (int i = 0; i < 3; i++) {
                boolean right = i < shape.length()
                        ? fits(shape.charAt(i), BigInteger.valueOf(event[i + 1]), a, cells)
                        : event[i + 1] == 0;
                if (!right) {
                    return -2;
                }
            }
            if (events.size() - told == 20) {
                return -5;
            }
            events.add(event);
            return refused(events.size() - 1);
        }

        public int undo() {
            if (none()) {
                return -2;
            }
            if (events.size() == told) {
                return -5;
            }
            events.remove(events.size() - 1);
            return events.size() - told;
        }

        public int anew() {
            if (none()) {
                return -2;
            }
            int were = events.size() - told;
            events = new ArrayList<>(events.subList(0, told));
            return were;
        }

        private Set<Integer> draw(long seed) {
            BigInteger x = BigInteger.valueOf(seed);
            Set<Integer> out = new HashSet<>();
            for (int e = 0; e < events.size(); e++) {
                x = x.multiply(BigInteger.valueOf(1103515245)).add(BigInteger.valueOf(12345))
                        .mod(BigInteger.ONE.shiftLeft(31));
                if (x.shiftRight(16).intValue() % 10 < odds) {
                    out.add(e);
                }
            }
            return out;
        }

        public int drawn(int seed, int what) {
            if (none() || seed < 0 || seed > 2000000000 || what < 0 || what > 1) {
                return -2;
            }
            Set<Integer> out = draw(seed);
            return what == 0 ? out.size() : world(out, scanLaw).dirties(events.size());
        }

        public int luck(int seed, int n, int cell) {
            if (noCell(cell) || seed < 0 || seed > 2000000000 || n < 1 || n > 20) {
                return -2;
            }
            int found = 0;
            for (int i = 0; i < n; i++) {
                found += world(draw(seed + i), scanLaw).dirty(cell, events.size()) ? 1 : 0;
            }
            return found;
        }

        public int count(int what) {
            int rowsThere = (int) Arrays.stream(rows).filter(r -> r != null).count();
            int[] answers = {cells, scanLaw, odds, told, events.size() - told, none() ? 0 : told + 1,
                tape.size(), rowsThere};
            return what < 0 || what > 7 ? -1 : answers[what];
        }

        public int image(int k) {
            if (k < 0 || k > 2) {
                return -2;
            }
            images[k] = new Image(cells, scanLaw, odds, told, List.copyOf(events));
            return 0;
        }

        public int back(int k) {
            if (k < 0 || k > 2) {
                return -2;
            }
            if (images[k] == null) {
                return -6;
            }
            cells = images[k].cells;
            scanLaw = images[k].scanLaw;
            odds = images[k].odds;
            told = images[k].told;
            events = new ArrayList<>(images[k].events);
            return 0;
        }

        public int row(int slot, int width, int n) {
            if (noSlot(slot) || width < 0 || width > 3 || n > 60) {
                return -2;
            }
            if (n < 0) {
                return -3;
            }
            Class<?>[] types = {byte.class, short.class, int.class, long.class};
            rows[slot] = java.lang.reflect.Array.newInstance(types[width], n);
            return 0;
        }

        public int write(int slot, int i, long v) {
            if (noSlot(slot)) {
                return -2;
            }
            if (rows[slot] == null) {
                return -6;
            }
            if (i < 0 || i >= length(rows[slot])) {
                return -7;
            }
            if (rows[slot] instanceof byte[] bytes) {
                bytes[i] = (byte) v;
            } else if (rows[slot] instanceof short[] shorts) {
                shorts[i] = (short) v;
            } else if (rows[slot] instanceof int[] ints) {
                ints[i] = (int) v;
            } else {
                ((long[]) rows[slot])[i] = v;
            }
            return 0;
        }

        public int paste(int slot, int i, int to, int k, int n) {
            if (noSlot(slot) || noSlot(to)) {
                return -2;
            }
            if (rows[slot] == null || rows[to] == null) {
                return -6;
            }
            if (rows[slot].getClass() != rows[to].getClass()) {
                return -8;
            }
            try {
                System.arraycopy(rows[slot], i, rows[to], k, n);
            } catch (IndexOutOfBoundsException e) {
                return -7;
            }
            return 0;
        }
    }
}
