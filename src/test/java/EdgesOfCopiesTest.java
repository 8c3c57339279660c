/** Promises 17 to 26, sentence by sentence: copies by a tick, what each keeps, and what it costs. */
public final class EdgesOfCopiesTest {
    private static final int MOST = Integer.MAX_VALUE;
    private static final int LEAST = Integer.MIN_VALUE;
    private static final String HEAD = "store cells 4 law 0 odds 5;";
    private static final int[] NO_TICKS = {-1, 14, 15, 40, 61, MOST, LEAST};
    private static final int[] NO_COPIES = {-1, 4, 5, 30, 60, MOST, LEAST};
    private static final int[] NO_CELLS = {-1, 4, 5, 31, 32, MOST, LEAST};
    private static Sentences s;

    public static void main(String[] args) throws Exception {
        s = new Sentences(17, 26);
        copies();
        open();
        copy();
        kept();
        saved();
        order();
        waiting();
        saves();
        work();
        wasted();
        s.end();
    }

    /**
     * A full COPY that is TORN (0 KEPT, 1 SAVED), a WHOLE one, a part WHOLE (1, 2), and by an act, the last
     * TICK being 13, another part that is OPEN (it WANTS 1, SAVED).
     */
    private static CopyWhileRun four() {
        CopyWhileRun x = Sentences.tell(HEAD + "full;scan 1;set 1 7;tear;full;finish;set 2 8;set 1 0;part;"
                + "set 1 6;finish;");
        x.does(5, 0, 0, 0);
        x.does(0, 1, 5, 0);
        return x;
    }

    private static void copies() {
        CopyWhileRun x = four();
        s.of(17, "How many COPIES have been begun by a TICK");
        s.row("copies", 0, x::copies, 0, 1, 1, 1, 1, 2, 2, 2, 2, 3, 3, 3, 4, 4);
        CopyWhileRun most = Sentences.tell(HEAD + "full;tear;".repeat(20));
        for (int i = 0; i < 20; i++) {
            most.does(i % 2 == 0 ? 4 : 8, 0, 0, 0);
        }
        s.row("copies, as many as can be", 57, most::copies, 29, 29, 30, 30);
        s.due("the last one", most.copy(29, 6), 60);
        s.of(17, "-2 likewise");
        s.all("copies", -2, x::copies, NO_TICKS);
        s.withoutStore("copies(0)", -2, y -> y.copies(0));
    }

    private static void open() {
        CopyWhileRun x = four();
        s.of(18, "The COPY that is OPEN at a TICK");
        s.row("open", 1, x::open, 0, 0, 0);
        s.due("open(5)", x.open(5), 1);
        s.row("open", 9, x::open, 2, 2);
        s.row("open, by an act", 12, x::open, 3, 3);
        s.of(18, "NONE: none is");
        s.all("open", -1, x::open, 0, 4, 6, 7, 8, 11);
        s.of(18, "-2 likewise");
        s.all("open", -2, x::open, NO_TICKS);
        s.withoutStore("open(0)", -2, y -> y.open(0));
    }

    private static void copy() {
        CopyWhileRun x = four();
        s.of(19, "Of a COPY (at the last TICK), what 0: 1 full, 0 part, 1: its MARK, 2: 0 OPEN, 1 WHOLE, 2 TORN, "
                + "3: how many CELLS it WANTS, 4: how many it has KEPT (of a TORN one: had), "
                + "5: how many of these are SAVED, 6: the TICK behind its finish, tear (NONE: it is OPEN)");
        s.row("copy(0)", 0, w -> x.copy(0, w), 1, 0, 2, 4, 2, 1, 4);
        s.row("copy(1)", 0, w -> x.copy(1, w), 1, 4, 1, 4, 4, 0, 6);
        s.row("copy(2)", 0, w -> x.copy(2, w), 0, 8, 1, 2, 2, 1, 11);
        s.row("copy(3)", 0, w -> x.copy(3, w), 0, 11, 0, 1, 1, 1, -1);
        x.does(7, 0, 0, 0);
        s.row("copy(3), WHOLE by an act", 0, w -> x.copy(3, w), 0, 11, 1, 1, 1, 1, 14);
        x.undo();
        s.row("copy(3), OPEN again", 0, w -> x.copy(3, w), 0, 11, 0, 1, 1, 1, -1);
        CopyWhileRun none = Sentences.tell(HEAD + "full;finish;part;");
        s.row("a part that WANTS none", 0, w -> none.copy(1, w), 0, 2, 0, 0, 0, 0, -1);
        CopyWhileRun all = Sentences.tell("store cells 32 law 0 odds 0;full;fill 0 31 1;tear;");
        s.row("32 SAVED", 0, w -> all.copy(0, w), 1, 0, 2, 32, 32, 32, 3);
        s.of(19, "-2: there are none such");
        s.all("copy(., 0)", -2, i -> x.copy(i, 0), NO_COPIES);
        s.all("copy(0, .)", -2, w -> x.copy(0, w), -1, 7, 8, MOST, LEAST);
        s.due("neither", x.copy(4, 7), -2);
        x.anew();
        s.due("one of an act taken back", x.copy(3, 0), -2);
        s.withoutStore("copy(0, 0)", -2, y -> y.copy(0, 0));
        s.due("none begun", Sentences.tell(HEAD + "part;").copy(0, 0), -2);
    }

    private static void kept() {
        CopyWhileRun x = four();
        s.of(20, "What a COPY has KEPT of a CELL");
        s.row("kept(1)", 0, c -> x.kept(1, c), 0, 7, 0, 0);
        s.row("kept(2)", 1, c -> x.kept(2, c), 0, 8);
        s.due("kept(3, 1)", x.kept(3, 1), 6);
        s.due("255", Sentences.tell(HEAD + "set 3 255;full;scan 4;").kept(0, 3), 255);
        s.of(20, "NONE: nothing, it is TORN");
        s.row("kept(0), TORN", 0, c -> x.kept(0, c), -1, -1, -1, -1);
        s.all("kept(2), not wanted", -1, c -> x.kept(2, c), 0, 3);
        s.all("kept(3), not wanted", -1, c -> x.kept(3, c), 0, 2, 3);
        s.row("not yet", 0, c -> Sentences.tell(HEAD + "full;scan 2;").kept(0, c), 0, 0, -1, -1);
        s.of(20, "-2: there are none such");
        s.all("kept(., 0)", -2, i -> x.kept(i, 0), NO_COPIES);
        s.all("kept(0, .), TORN", -2, c -> x.kept(0, c), NO_CELLS);
        s.all("kept(1, .)", -2, c -> x.kept(1, c), NO_CELLS);
        s.withoutStore("kept(0, 0)", -2, y -> y.kept(0, 0));
    }

    private static void saved() {
        CopyWhileRun x = four();
        s.of(21, "1 if it was SAVED (TORN, too), else 0");
        s.row("saved(0), TORN", 0, c -> x.saved(0, c), 0, 1, 0, 0);
        s.row("saved(1)", 0, c -> x.saved(1, c), 0, 0, 0, 0);
        s.row("saved(2)", 0, c -> x.saved(2, c), 0, 1, 0, 0);
        s.row("saved(3)", 0, c -> x.saved(3, c), 0, 1, 0, 0);
        s.due("cell 31", Sentences.tell("store cells 32 law 0 odds 0;full;set 31 1;").saved(0, 31), 1);
        s.of(21, "-2 likewise");
        s.all("saved(., 0)", -2, i -> x.saved(i, 0), NO_COPIES);
        s.all("saved(0, .)", -2, c -> x.saved(0, c), NO_CELLS);
        s.due("cell 32", Sentences.tell("store cells 32 law 0 odds 0;full;set 0 1;").saved(0, 32), -2);
        s.withoutStore("saved(0, 0)", -2, y -> y.saved(0, 0));
    }

    private static void order() {
        CopyWhileRun x = four();
        s.of(22, "The i-th CELL (from 0) that a COPY KEPT, as they were (TORN, too)");
        s.row("order(0), TORN", 0, i -> x.order(0, i), 0, 1);
        s.row("order(1)", 0, i -> x.order(1, i), 0, 1, 2, 3);
        s.row("order(2)", 0, i -> x.order(2, i), 1, 2);
        s.row("order(3)", 0, i -> x.order(3, i), 1);
        CopyWhileRun all = Sentences.tell("store cells 32 law 1 odds 0;full;finish;");
        s.row("of 32", 30, i -> all.order(0, i), 1, 0, -1);
        s.of(22, "NONE: there are not so many");
        s.all("order(0)", -1, i -> x.order(0, i), 2, 3, 4, 31, 32, MOST);
        s.all("order(1)", -1, i -> x.order(1, i), 4, 5, 32, 33, MOST);
        s.all("order(3)", -1, i -> x.order(3, i), 1, 2);
        s.due("none", Sentences.tell(HEAD + "full;").order(0, 0), -1);
        s.of(22, "-2: there is no such COPY, i is below 0");
        s.all("order(., 0)", -2, i -> x.order(i, 0), NO_COPIES);
        s.all("order(0, .)", -2, i -> x.order(0, i), -1, -2, LEAST);
        s.due("neither", x.order(4, -1), -2);
        s.withoutStore("order(0, 0)", -2, y -> y.order(0, 0));
    }

    private static void waiting() {
        CopyWhileRun x = four();
        s.of(23, "How many CELLS the OPEN COPY WANTS at a TICK and has not KEPT");
        s.row("waiting", 1, x::waiting, 4, 3, 2);
        s.due("waiting(5)", x.waiting(5), 4);
        s.row("waiting", 9, x::waiting, 2, 1);
        s.row("waiting, by acts", 12, x::waiting, 1, 0);
        s.due("it WANTS none", Sentences.tell(HEAD + "full;finish;part;").waiting(3), 0);
        s.due("32", Sentences.tell("store cells 32 law 0 odds 0;full;").waiting(1), 32);
        s.of(23, "NONE: none is OPEN");
        s.all("waiting", -1, x::waiting, 0, 4, 6, 7, 8, 11);
        s.of(23, "-2: there is no such TICK, no STORE");
        s.all("waiting", -2, x::waiting, NO_TICKS);
        s.withoutStore("waiting(0)", -2, y -> y.waiting(0));
    }

    private static void saves() {
        CopyWhileRun x = four();
        s.of(24, "CELLS that are SAVED by an EVENT: how many");
        s.row("saves", 0, x::saves, 0, 0, 1, 0, 0, 0, 0, 0, 0, 1, 0, 0, 1);
        s.due("32", Sentences.tell("store cells 32 law 0 odds 0;full;fill 0 31 1;").saves(1), 32);
        s.of(24, "-2: there is none such");
        s.all("saves", -2, x::saves, -1, 13, 14, 40, 60, MOST, LEAST);
        s.withoutStore("saves(0)", -2, y -> y.saves(0));
    }

    private static void work() {
        CopyWhileRun x = four();
        s.of(25, "How many CELLS in all are KEPT by a TICK (by TORN ones, too)");
        s.row("work", 0, x::work, 0, 0, 1, 2, 2, 2, 6, 6, 6, 6, 7, 8, 8, 9);
        s.of(25, "-2: there is none such, no STORE");
        s.all("work", -2, x::work, NO_TICKS);
        s.withoutStore("work(0)", -2, y -> y.work(0));
    }

    private static void wasted() {
        CopyWhileRun x = four();
        s.of(26, "How many of these for nothing: by COPIES that are TORN by that TICK");
        s.row("wasted", 0, x::wasted, 0, 0, 0, 0, 2, 2, 2, 2, 2, 2, 2, 2, 2, 2);
        x.does(8, 0, 0, 0);
        s.row("wasted, by an act", 13, x::wasted, 2, 3);
        s.due("a TORN one that had none", Sentences.tell(HEAD + "full;tear;").wasted(2), 0);
        x.undo();
        s.of(26, "-2 likewise");
        s.all("wasted", -2, x::wasted, NO_TICKS);
        s.withoutStore("wasted(0)", -2, y -> y.wasted(0));
    }
}
