/** Promises 27 to 39, sentence by sentence: the chain, what is replayed, ticks side by side, the pace. */
public final class EdgesOfChainsTest {
    private static final int MOST = Integer.MAX_VALUE;
    private static final int LEAST = Integer.MIN_VALUE;
    private static final String HEAD = "store cells 4 law 0 odds 5;";
    private static final int[] NO_TICKS = {-1, 17, 18, 40, 61, MOST, LEAST};
    private static final int[] NO_CELLS = {-1, 4, 5, 31, 32, MOST, LEAST};
    private static Sentences s;

    public static void main(String[] args) throws Exception {
        s = new Sentences(27, 39);
        chain();
        linked();
        replays();
        raised();
        restored();
        doubled();
        source();
        age();
        worst();
        differ();
        same();
        pace();
        best();
        s.end();
    }

    /**
     * COPIES: 0 full WHOLE at 3, 1 part (of 1) WHOLE at 7, 2 part TORN at 9, 3 part (of 1, 2) WHOLE at 12,
     * 4 full WHOLE at 15; then an act that adds to cell 3; the last TICK is 16.
     */
    private static CopyWhileRun five() {
        CopyWhileRun x = Sentences.tell(HEAD + "set 0 1;full;finish;set 1 2;part;set 1 3;finish;part;tear;set 2 4;"
                + "part;finish;add 0 1;full;finish;");
        x.does(1, 3, 9, 0);
        return x;
    }

    private static void chain() {
        CopyWhileRun x = five();
        s.of(27, "How many COPIES CHAIN (IV) has at a TICK");
        s.row("chain", 0, x::chain, 0, 0, 0, 1, 1, 1, 1, 2, 2, 2, 2, 2, 3, 3, 3, 1, 1);
        s.due("TORN ones alone", Sentences.tell(HEAD + "full;tear;full;scan 4;").chain(4), 0);
        s.of(27, "-2 likewise");
        s.all("chain", -2, x::chain, NO_TICKS);
        s.withoutStore("chain(0)", -2, y -> y.chain(0));
    }

    private static void linked() {
        CopyWhileRun x = five();
        s.of(28, "Its i-th COPY (from 0)");
        s.row("linked(14)", 0, i -> x.linked(14, i), 0, 1, 3);
        s.due("linked(3, 0)", x.linked(3, 0), 0);
        s.due("linked(16, 0)", x.linked(16, 0), 4);
        s.of(28, "NONE: there is none such");
        s.all("linked(14)", -1, i -> x.linked(14, i), 3, 4, MOST);
        s.all("linked(16)", -1, i -> x.linked(16, i), 1, 2, MOST);
        s.all("linked(2)", -1, i -> x.linked(2, i), 0, 1, MOST);
        s.of(28, "-2: i is below 0, there is no such TICK, no STORE");
        s.all("linked(14)", -2, i -> x.linked(14, i), -1, -2, LEAST);
        s.all("linked(0), no CHAIN", -2, i -> x.linked(0, i), -1, LEAST);
        s.all("linked(., 0)", -2, t -> x.linked(t, 0), NO_TICKS);
        s.withoutStore("linked(0, 0)", -2, y -> y.linked(0, 0));
    }

    private static void replays() {
        CopyWhileRun x = five();
        s.of(29, "How many COMMANDS are REPLAYED at a TICK");
        s.row("replays", 0, x::replays, 0, 1, 1, 0, 1, 1, 2, 1, 1, 1, 2, 2, 0, 1, 1, 0, 1);
        CopyWhileRun idle = Sentences.tell(HEAD + "set 0 0;fill 0 3 0;");
        s.row("replays, nothing CHANGED", 0, idle::replays, 0, 1, 2);
        s.of(29, "-2: there is none such, no STORE");
        s.all("replays", -2, x::replays, NO_TICKS);
        s.withoutStore("replays(0)", -2, y -> y.replays(0));
    }

    private static void raised() {
        CopyWhileRun x = five();
        s.of(30, "The value of a CELL by the COPIES of CHAIN alone");
        s.row("raised(1)", 3, t -> x.raised(1, t), 0, 0, 0, 0, 2, 2, 2, 2, 2, 3, 3, 3, 3, 3);
        s.row("raised(., 14)", 0, c -> x.raised(c, 14), 1, 3, 4, 0);
        s.row("raised(., 16)", 0, c -> x.raised(c, 16), 2, 3, 4, 0);
        s.of(30, "0: without one");
        s.row("raised(0)", 0, t -> x.raised(0, t), 0, 0, 0, 1);
        s.row("TORN", 0, t -> Sentences.tell(HEAD + "set 0 1;full;scan 4;tear;").raised(0, t), 0, 0, 0, 0, 0);
        s.of(30, "-2: there are none such");
        s.all("raised(0, .)", -2, t -> x.raised(0, t), NO_TICKS);
        s.all("raised(., 16)", -2, c -> x.raised(c, 16), NO_CELLS);
        s.all("raised(., 0), without one", -2, c -> x.raised(c, 0), NO_CELLS);
        s.withoutStore("raised(0, 0)", -2, y -> y.raised(0, 0));
    }

    private static void restored() {
        CopyWhileRun x = five();
        s.of(31, "The value of a CELL RAISED (IV");
        s.due("without a COMMAND more", x.restored(0, 15), 2);
        s.row("restored(., 12)", 0, c -> x.restored(c, 12), 1, 3, 4, 0);
        s.of(31, "REPLAYED)");
        s.row("restored(1)", 0, t -> x.restored(1, t), 0, 0, 0, 0, 2, 2, 3, 3, 3, 3, 3, 3, 3, 3, 3, 3, 3);
        s.row("restored(3), by an act", 15, t -> x.restored(3, t), 0, 9);
        CopyWhileRun wrap = Sentences.tell(HEAD + "set 0 200;full;add 0 56;finish;add 0 255;swap 0 3;");
        s.row("restored(0), modulo 256", 0, t -> wrap.restored(0, t), 0, 200, 200, 0, 0, 255, 0);
        s.due("restored(3, 6)", wrap.restored(3, 6), 255);
        s.of(31, "-2 likewise");
        s.all("restored(0, .)", -2, t -> x.restored(0, t), NO_TICKS);
        s.all("restored(., 0)", -2, c -> x.restored(c, 0), NO_CELLS);
        s.withoutStore("restored(0, 0)", -2, y -> y.restored(0, 0));
    }

    private static void doubled() {
        CopyWhileRun x = five();
        s.of(32, "CELLS KEPT by a COPY of CHAIN that a later one of it KEEPS, too, added up over all its COPIES");
        s.row("doubled", 3, x::doubled, 0, 0, 0, 0, 1, 1, 1, 1, 1, 3, 3, 3, 0, 0);
        // cell 0 in all three: by the first one once, by the second one once
        CopyWhileRun three = Sentences.tell(HEAD + "full;finish;set 0 1;part;finish;set 0 2;part;finish;");
        s.due("once for each COPY, not for each pair", three.doubled(8), 2);
        s.of(32, "0: without one");
        s.row("doubled", 0, x::doubled, 0, 0, 0);
        s.due("TORN ones", Sentences.tell(HEAD + "full;scan 4;tear;full;scan 4;tear;").doubled(6), 0);
        s.of(32, "-2: there is no such TICK, no STORE");
        s.all("doubled", -2, x::doubled, NO_TICKS);
        s.withoutStore("doubled(0)", -2, y -> y.doubled(0));
    }

    private static void source() {
        CopyWhileRun x = five();
        s.of(33, "The COPY of CHAIN of which a CELL is RAISED");
        s.row("source(1)", 3, t -> x.source(1, t), 0, 0, 0, 0, 1, 1, 1, 1, 1, 3, 3, 3, 4, 4);
        s.row("source(., 14)", 0, c -> x.source(c, 14), 0, 3, 3, 0);
        s.of(33, "NONE: without one");
        s.row("source(0)", 0, t -> x.source(0, t), -1, -1, -1, 0);
        s.row("TORN", 0, t -> Sentences.tell(HEAD + "set 0 1;full;scan 4;tear;").source(0, t), -1, -1, -1, -1, -1);
        s.of(33, "-2: there are none such");
        s.all("source(0, .)", -2, t -> x.source(0, t), NO_TICKS);
        s.all("source(., 16)", -2, c -> x.source(c, 16), NO_CELLS);
        s.all("source(., 0), without one", -2, c -> x.source(c, 0), NO_CELLS);
        s.withoutStore("source(0, 0)", -2, y -> y.source(0, 0));
    }

    private static void age() {
        CopyWhileRun x = five();
        s.of(34, "EVENTS since the MARK of CHAIN's last COPY (all, without one)");
        s.row("age", 0, x::age, 0, 1, 2, 2, 3, 4, 5, 3, 4, 5, 6, 7, 2, 3, 4, 2, 3);
        CopyWhileRun none = Sentences.tell(HEAD + "tear;".repeat(40));
        for (int i = 0; i < 20; i++) {
            none.does(8, 0, 0, 0);
        }
        s.due("all, without one", none.age(60), 60);
        s.of(34, "-2: there is no such TICK, no STORE");
        s.all("age", -2, x::age, NO_TICKS);
        s.due("age(61)", none.age(61), -2);
        s.withoutStore("age(0)", -2, y -> y.age(0));
    }

    private static void worst() {
        CopyWhileRun x = five();
        s.of(35, "The TICK at which age() is most, the first of several");
        s.due("worst()", x.worst(), 11);
        for (int i = 0; i < 4; i++) {
            x.does(0, 0, 0, 0);
        }
        s.due("as much by acts", x.age(20), 7);
        s.due("the first of two", x.worst(), 11);
        x.does(0, 0, 0, 0);
        s.due("more by acts", x.worst(), 21);
        s.due("no EVENTS", Sentences.tell(HEAD).worst(), 0);
        s.due("one EVENT", Sentences.tell(HEAD + "tear;").worst(), 1);
        // 0, 1, then 2 from the MARK 0 on
        s.due("a COPY at once", Sentences.tell(HEAD + "full;finish;").worst(), 2);
        // 0, 1, 2, then 2 from the MARK 1 on
        s.due("the first of several", Sentences.tell(HEAD + "tear;full;finish;").worst(), 2);
        s.of(35, "-2: there is no STORE");
        s.withoutStore("worst()", -2, CopyWhileRun::worst);
    }

    private static void differ() {
        CopyWhileRun x = five();
        s.of(36, "How many CELLS are other at two TICKS");
        s.row("differ(0, .)", 0, t -> x.differ(0, t), 0, 1, 1, 1, 2, 2, 2, 2, 2, 2, 3, 3, 3, 3, 3, 3, 4);
        s.row("differ(., 0)", 0, t -> x.differ(t, 0), 0, 1, 1, 1, 2, 2, 2, 2, 2, 2, 3, 3, 3, 3, 3, 3, 4);
        s.row("differ(4, .)", 4, t -> x.differ(4, t), 0, 0, 1, 1, 1, 1, 2);
        s.due("all of 32", Sentences.tell("store cells 32 law 0 odds 0;fill 0 31 1;").differ(1, 0), 32);
        s.due("gone back", Sentences.tell(HEAD + "set 0 1;set 0 0;").differ(0, 2), 0);
        s.of(36, "-2: there are none such, no STORE");
        s.all("differ(0, .)", -2, t -> x.differ(0, t), NO_TICKS);
        s.all("differ(., 0)", -2, t -> x.differ(t, 0), NO_TICKS);
        s.all("differ of one twice", -2, t -> x.differ(t, t), NO_TICKS);
        s.withoutStore("differ(0, 0)", -2, y -> y.differ(0, 0));
    }

    private static void same() {
        CopyWhileRun x = five();
        s.of(37, "The first TICK at which all CELLS are as at a TICK (it, too)");
        s.row("same", 0, x::same, 0, 1, 1, 1, 4, 4, 6, 6, 6, 6, 10, 10, 10, 13, 13, 13, 16);
        CopyWhileRun back = Sentences.tell(HEAD + "set 0 1;set 0 0;set 0 1;swap 0 3;swap 3 0;");
        s.row("same, gone back", 0, back::same, 0, 1, 0, 1, 4, 1);
        s.of(37, "-2: there is none such, no STORE");
        s.all("same", -2, x::same, NO_TICKS);
        s.withoutStore("same(0)", -2, y -> y.same(0));
    }

    private static void pace() {
        s.of(38, "PACE: COMMANDS alone (told, of acts, in order)");
        CopyWhileRun x = Sentences.tell(HEAD + "set 0 1;full;set 1 1;scan 4;finish;set 2 1;");
        s.row("pace", 1, x::pace, 6, 6, 4, 4);
        x.does(8, 0, 0, 0);
        s.row("an act that is none", 1, x::pace, 6, 6, 4, 4);
        x.does(0, 3, 1, 0);
        s.row("an act that is one", 1, x::pace, 7, 6, 7, 4);
        s.of(38, "ahead of the first one a full COPY is made, and ahead of each e-th one behind it (e 1 .. 20) a part, "
                + "each WHOLE at once: how many CELLS are KEPT in all (0 without COMMANDS)");
        s.all("no COMMANDS", 0, Sentences.tell(HEAD)::pace, 1, 2, 19, 20);
        s.all("a COPY alone", 0, Sentences.tell(HEAD + "full;scan 2;finish;")::pace, 1, 20);
        s.all("one COMMAND", 4, Sentences.tell(HEAD + "fill 0 3 1;")::pace, 1, 2, 20);
        s.all("nothing CHANGED", 4, Sentences.tell(HEAD + "set 0 0;set 0 0;set 0 0;")::pace, 1, 2, 3, 20);
        s.row("twenty", 19, Sentences.tell(HEAD + "add 0 1;".repeat(20))::pace, 5, 4);
        s.row("one and twenty", 19, Sentences.tell(HEAD + "add 0 1;".repeat(21))::pace, 5, 5);
        s.row("one cell, ahead of each", 1, Sentences.tell(HEAD + "add 0 1;".repeat(21))::pace, 24, 14, 10);
        s.of(38, "-2: there is no such e, no STORE");
        s.all("pace", -2, x::pace, 0, -1, 21, 22, MOST, LEAST);
        s.all("pace, no COMMANDS", -2, Sentences.tell(HEAD)::pace, 0, 21);
        s.withoutStore("pace(1)", -2, y -> y.pace(1));
        s.withoutStore("pace(20)", -2, y -> y.pace(20));
    }

    private static void best() {
        s.of(39, "The e by which those, and twice the COMMANDS that a crash at the end would REPLAY, are fewest together, "
                + "the least of several");
        s.due("no COMMANDS", Sentences.tell(HEAD).best(), 1);
        s.due("one COMMAND", Sentences.tell(HEAD + "fill 0 3 1;").best(), 1);
        // each part KEEPS 1: 5 and twice 1, or 4 and twice 2
        s.due("two", Sentences.tell(HEAD + "set 0 1;set 0 2;").best(), 1);
        // each part KEEPS 2: 6 and twice 1, or 4 and twice 2, the same
        s.due("two, the least of several", Sentences.tell(HEAD + "fill 0 1 1;fill 0 1 2;").best(), 1);
        // each part KEEPS 3: 7 and twice 1, or 4 and twice 2
        s.due("two, more to keep", Sentences.tell(HEAD + "fill 0 2 1;fill 0 2 2;").best(), 2);
        StringBuilder wide = new StringBuilder("store cells 32 law 0 odds 0;");
        for (int i = 1; i <= 21; i++) {
            wide.append("fill 0 31 ").append(i).append(";");
        }
        // 20 makes one part, and leaves one to replay; there is no 21
        s.due("the greatest", Sentences.tell(wide.toString()).best(), 20);
        CopyWhileRun acts = Sentences.tell(HEAD + "fill 0 2 1;");
        s.due("told alone", acts.best(), 1);
        acts.does(3, 0, 2, 2);
        s.due("and an act", acts.best(), 2);
        s.of(39, "-2: there is no STORE");
        s.withoutStore("best()", -2, CopyWhileRun::best);
    }
}
