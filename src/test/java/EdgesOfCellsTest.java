/** Promises 8 to 16, sentence by sentence: cells at a tick, which are dirty, and the tree of regions. */
public final class EdgesOfCellsTest {
    private static final int MOST = Integer.MAX_VALUE;
    private static final int LEAST = Integer.MIN_VALUE;
    private static final String HEAD = "store cells 4 law 0 odds 5;";
    private static final String WIDE = "store cells 32 law 0 odds 0;";
    private static final int[] NO_TICKS = {-1, 5, 6, 40, 61, MOST, LEAST};
    private static final int[] NO_CELLS = {-1, 4, 5, 31, 32, MOST, LEAST};
    private static final int[] NO_LEVELS = {-1, 6, 7, 31, 32, 33, MOST, LEAST};
    private static Sentences s;

    public static void main(String[] args) throws Exception {
        s = new Sentences(8, 16);
        value();
        sum();
        changes();
        latest();
        dirty();
        dirties();
        region();
        regions();
        looks();
        s.end();
    }

    /** Four events told, and an act: the last tick is 5. */
    private static CopyWhileRun five() {
        CopyWhileRun x = Sentences.tell(HEAD + "set 3 255;full;add 3 1;finish;");
        x.does(3, 0, 1, 2);
        return x;
    }

    private static void value() {
        CopyWhileRun x = five();
        s.of(8, "The value of a CELL at a TICK");
        s.row("value(3)", 0, t -> x.value(3, t), 0, 255, 255, 0, 0, 0);
        s.row("value(., 5)", 0, c -> x.value(c, 5), 2, 2, 0, 0);
        s.due("a TICK ahead, asked behind a later one", x.value(3, 1), 255);
        s.of(8, "-2: there are none such");
        s.all("value(0, .)", -2, t -> x.value(0, t), -1, 6, 40, 61, MOST, LEAST);
        s.all("value(., 0)", -2, c -> x.value(c, 0), NO_CELLS);
        s.due("neither", x.value(4, 6), -2);
        x.undo();
        s.due("a TICK taken back", x.value(0, 5), -2);
        s.withoutStore("value(0, 0)", -2, y -> y.value(0, 0));
        s.due("no EVENTS, TICK 0", Sentences.tell(HEAD).value(0, 0), 0);
        s.due("no EVENTS, TICK 1", Sentences.tell(HEAD).value(0, 1), -2);
        s.due("the last cell of 32", Sentences.tell(WIDE).value(31, 0), 0);
        s.due("one behind", Sentences.tell(WIDE).value(32, 0), -2);
    }

    private static void sum() {
        CopyWhileRun x = five();
        s.of(9, "Values of all CELLS at a TICK, together");
        s.row("sum", 0, x::sum, 0, 255, 255, 0, 0, 4);
        s.due("the most", Sentences.tell(WIDE + "fill 0 31 255;").sum(1), 8160);
        s.of(9, "-2: there is none such, no STORE");
        x.undo();
        s.all("sum", -2, x::sum, NO_TICKS);
        s.withoutStore("sum(0)", -2, y -> y.sum(0));
        s.due("no EVENTS, TICK 1", Sentences.tell(HEAD).sum(1), -2);
    }

    private static void changes() {
        CopyWhileRun x = five();
        s.of(10, "How many CELLS an EVENT CHANGES");
        s.row("changes", 0, x::changes, 1, 0, 1, 0, 2);
        CopyWhileRun wide = Sentences.tell(WIDE + "fill 0 31 1;fill 0 31 1;set 5 2;fill 0 31 2;swap 0 31;");
        s.row("changes of 32", 0, wide::changes, 32, 0, 1, 31, 0);
        s.of(10, "-2: there is none such");
        x.undo();
        s.all("changes", -2, x::changes, -1, 4, 5, 40, 60, MOST, LEAST);
        s.due("the last one", x.changes(3), 0);
        s.withoutStore("changes(0)", -2, y -> y.changes(0));
        s.due("no EVENTS", Sentences.tell(HEAD).changes(0), -2);
    }

    private static void latest() {
        CopyWhileRun x = five();
        s.of(11, "The latest EVENT ahead of a TICK that CHANGED a CELL");
        s.row("latest(3)", 0, t -> x.latest(3, t), -1, 0, 0, 2, 2, 2);
        s.row("latest(0), by an act", 4, t -> x.latest(0, t), -1, 4);
        CopyWhileRun same = Sentences.tell(HEAD + "set 0 1;set 0 1;add 0 0;swap 0 1;swap 0 2;");
        s.row("latest(0), one that CHANGED", 0, t -> same.latest(0, t), -1, 0, 0, 0, 3, 3);
        s.of(11, "NONE: none did");
        s.all("latest(2)", -1, t -> x.latest(2, t), 0, 1, 2, 3, 4, 5);
        s.of(11, "-2: there are none such");
        s.all("latest(0, .)", -2, t -> x.latest(0, t), -1, 6, MOST, LEAST);
        s.all("latest(., 0)", -2, c -> x.latest(c, 0), NO_CELLS);
        s.withoutStore("latest(0, 0)", -2, y -> y.latest(0, 0));
        s.due("one behind 32 cells", Sentences.tell(WIDE).latest(32, 0), -2);
    }

    private static void dirty() {
        CopyWhileRun x = five();
        s.of(12, "1 if a CELL is DIRTY at a TICK, else 0");
        // by event 2, behind the COPY's MARK, it stays so
        s.row("dirty(3)", 0, t -> x.dirty(3, t), 0, 1, 1, 1, 1, 1);
        s.row("dirty(0)", 0, t -> x.dirty(0, t), 0, 0, 0, 0, 0, 1);
        CopyWhileRun clean = Sentences.tell(WIDE + "set 31 1;full;finish;");
        s.row("dirty(31)", 0, t -> clean.dirty(31, t), 0, 1, 1, 0);
        s.of(12, "-2: there are none such");
        s.all("dirty(0, .)", -2, t -> x.dirty(0, t), -1, 6, MOST, LEAST);
        s.all("dirty(., 0)", -2, c -> x.dirty(c, 0), NO_CELLS);
        s.due("one behind 32 cells", clean.dirty(32, 0), -2);
        s.withoutStore("dirty(0, 0)", -2, y -> y.dirty(0, 0));
    }

    private static void dirties() {
        CopyWhileRun x = five();
        s.of(13, "How many are");
        s.row("dirties", 0, x::dirties, 0, 1, 1, 1, 1, 3);
        s.row("dirties of 32", 0, t -> Sentences.tell(WIDE + "fill 0 31 1;full;finish;").dirties(t), 0, 32, 32, 0);
        s.of(13, "-2: there is none such, no STORE");
        x.undo();
        s.all("dirties", -2, x::dirties, NO_TICKS);
        s.withoutStore("dirties(0)", -2, y -> y.dirties(0));
    }

    private static void region() {
        CopyWhileRun x = Sentences.tell(WIDE + "set 0 1;set 31 1;full;finish;");
        s.of(14, "1 if a REGION i of a LEVEL (0 .. 5) is DIRTY at a TICK, else 0");
        s.row("region(k, 0, 1)", 0, k -> x.region(k, 0, 1), 1, 1, 1, 1, 1, 1);
        s.row("region(k, last, 1)", 0, k -> x.region(k, (32 >> k) - 1, 1), 0, 0, 0, 0, 0, 1);
        s.row("region(k, last, 2)", 0, k -> x.region(k, (32 >> k) - 1, 2), 1, 1, 1, 1, 1, 1);
        s.row("region(k, 0, 4)", 0, k -> x.region(k, 0, 4), 0, 0, 0, 0, 0, 0);
        s.row("region(0, i, 2)", 0, i -> x.region(0, i, 2), 1, 0, 0);
        s.row("region(0, i, 2)", 29, i -> x.region(0, i, 2), 0, 0, 1);
        s.of(14, "-2: there are none such, no STORE");
        s.all("region(., 0, 0)", -2, k -> x.region(k, 0, 0), NO_LEVELS);
        for (int level = 0; level <= 5; level++) {
            int k = level;
            s.all("region(" + k + ", ., 2)", -2, i -> x.region(k, i, 2), -1, 32 >> k, 33, 64, MOST, LEAST);
        }
        s.all("region(0, 0, .)", -2, t -> x.region(0, 0, t), -1, 5, 61, MOST, LEAST);
        s.due("beyond the cells told", Sentences.tell(HEAD).region(0, 31, 0), 0);
        s.withoutStore("region(0, 0, 0)", -2, y -> y.region(0, 0, 0));
        s.withoutStore("region(5, 0, 0)", -2, y -> y.region(5, 0, 0));
    }

    private static void regions() {
        CopyWhileRun x = Sentences.tell(WIDE + "set 0 1;set 31 1;fill 0 31 2;full;finish;");
        s.of(15, "How many REGIONS of a LEVEL are");
        s.row("regions(k, 0)", 0, k -> x.regions(k, 0), 0, 0, 0, 0, 0, 0);
        s.row("regions(k, 1)", 0, k -> x.regions(k, 1), 1, 1, 1, 1, 1, 1);
        s.row("regions(k, 2)", 0, k -> x.regions(k, 2), 2, 2, 2, 2, 2, 1);
        s.row("regions(k, 3)", 0, k -> x.regions(k, 3), 32, 16, 8, 4, 2, 1);
        s.row("regions(k, 5)", 0, k -> x.regions(k, 5), 0, 0, 0, 0, 0, 0);
        s.of(15, "-2 likewise");
        s.all("regions(., 0)", -2, k -> x.regions(k, 0), NO_LEVELS);
        s.all("regions(0, .)", -2, t -> x.regions(0, t), -1, 6, 61, MOST, LEAST);
        s.withoutStore("regions(5, 0)", -2, y -> y.regions(5, 0));
    }

    private static void looks() {
        CopyWhileRun x = Sentences.tell(WIDE + "set 31 1;set 0 1;fill 0 31 2;full;finish;");
        s.of(16, "LOOKS (V) at a TICK");
        s.row("looks", 0, x::looks, 1, 11, 19, 63, 63, 1);
        s.due("of two cells", Sentences.tell("store cells 2 law 0 odds 0;fill 0 1 1;").looks(1), 11);
        s.of(16, "-2: there is none such, no STORE");
        s.all("looks", -2, x::looks, -1, 6, 61, MOST, LEAST);
        s.withoutStore("looks(0)", -2, y -> y.looks(0));
    }
}
