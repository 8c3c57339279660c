/** Promises 40 to 50, sentence by sentence: events left out, what is seen, laws, shares, the game. */
public final class EdgesOfLeftOutTest {
    private static final int MOST = Integer.MAX_VALUE;
    private static final int LEAST = Integer.MIN_VALUE;
    private static final String HEAD = "store cells 4 law 0 odds 5;";
    private static final int[] NO_SLOTS = {-1, 4, 5, MOST, LEAST};
    private static Sentences s;

    public static void main(String[] args) throws Exception {
        s = new Sentences(40, 50);
        blame();
        idle();
        may();
        which();
        plain();
        by();
        law();
        worth();
        share();
        rests();
        gets();
        s.end();
    }

    private static CopyWhileRun acted(String told, int cell, int v) {
        CopyWhileRun x = Sentences.tell(told);
        x.does(0, cell, v, 0);
        return x;
    }

    private static void blame() {
        s.of(40, "The EVENT told that, left out, leaves most CELLS that are 0 at the last TICK, if more than now, "
                + "the first of several");
        s.due("EVENT 0", Sentences.tell(HEAD + "set 0 1;").blame(), 0);
        s.due("EVENT 39", Sentences.tell(HEAD + "tear;".repeat(39) + "set 0 1;").blame(), 39);
        s.due("the first of several", Sentences.tell(HEAD + "full;set 0 1;set 1 1;").blame(), 1);
        s.due("the most", Sentences.tell(HEAD + "set 0 1;fill 1 2 1;set 3 1;").blame(), 1);
        s.due("at the last TICK, an act behind", acted(HEAD + "fill 0 1 1;set 2 1;", 0, 0).blame(), 0);
        s.due("another is blamed by an act", acted(HEAD + "set 0 1;set 1 1;", 0, 0).blame(), 1);
        s.of(40, "NONE: none");
        s.due("no EVENTS", Sentences.tell(HEAD).blame(), -1);
        s.due("as many as now", Sentences.tell(HEAD + "set 0 1;set 0 2;").blame(), -1);
        s.due("fewer than now", Sentences.tell(HEAD + "set 0 1;set 0 0;").blame(), -1);
        s.due("no COMMANDS", Sentences.tell(HEAD + "full;scan 1;tear;").blame(), -1);
        s.due("an act is not told", acted(HEAD + "full;", 0, 1).blame(), -1);
        s.due("all are 0 in any case", Sentences.tell(HEAD + "fill 0 3 0;").blame(), -1);
        s.of(40, "-2 likewise");
        s.withoutStore("blame()", -2, CopyWhileRun::blame);
    }

    private static void idle() {
        s.of(41, "The COMMAND told (its EVENT) that, left out, leaves all CELLS as they are at the last TICK, "
                + "the first of several");
        s.due("EVENT 0", Sentences.tell(HEAD + "set 0 0;").idle(), 0);
        s.due("EVENT 39", Sentences.tell(HEAD + "set 0 1;" + "tear;".repeat(38) + "add 0 0;").idle(), 39);
        s.due("the first of several", Sentences.tell(HEAD + "set 1 5;set 0 1;set 0 1;").idle(), 1);
        s.due("a COMMAND", Sentences.tell(HEAD + "full;tear;set 1 5;swap 2 3;").idle(), 3);
        s.due("one that CHANGED, another behind it", Sentences.tell(HEAD + "set 0 1;set 0 2;").idle(), 0);
        s.due("by an act", acted(HEAD + "set 1 1;set 0 1;", 0, 3).idle(), 1);
        s.of(41, "NONE: none does");
        s.due("no EVENTS", Sentences.tell(HEAD).idle(), -1);
        s.due("no COMMANDS", Sentences.tell(HEAD + "full;scan 1;finish;part;tear;").idle(), -1);
        s.due("each counts", Sentences.tell(HEAD + "set 0 1;add 0 255;").idle(), -1);
        s.due("an act is not told", acted(HEAD + "full;", 0, 0).idle(), -1);
        s.of(41, "-2 likewise");
        s.withoutStore("idle()", -2, CopyWhileRun::idle);
    }

    /** Three EVENTS told, and an act. */
    private static CopyWhileRun told() {
        return acted(HEAD + "set 0 1;add 0 1;full;", 1, 255);
    }

    private interface Seen {
        long of(CopyWhileRun x, int slot);
    }

    /** The answers that may, which and plain have in common. */
    private static void seenRefused(String call, Seen seen) {
        CopyWhileRun x = told();
        s.all(call + " of no slot", -2, i -> seen.of(x, i), NO_SLOTS);
        s.withoutStore(call + ", no STORE, nothing in the slot", -2, y -> seen.of(y, 0));
        s.withoutStore(call + ", no STORE, a row of none", -2, y -> {
            y.row(0, 0, 0);
            return seen.of(y, 0);
        });
        s.all(call + " of nothing", -6, i -> seen.of(x, i), 0, 1, 2, 3);
        for (int n = 0; n <= 60; n++) {
            x.row(0, 0, n);
            long got = seen.of(x, 0);
            s.due(call + " of " + n + " numbers", got == -2 ? -2 : 0, n % 3 == 0 ? 0 : -2);
        }
        long[][] none = {{-1, 0, 0}, {5, 0, 0}, {0, -1, 0}, {0, 4, 0}, {0, 0, -1}, {0, 0, 256}, {61, 0, 0},
            {4294967296L, 0, 0}, {0, 4294967296L, 0}, {0, 0, 4294967296L}, {0, 0, 0, 0, 0, 256},
            {0, 0, 0, 5, 0, 0}, {0, 0, 0, 0, 4, 0}, {0, 0, 7, 0, 0, 256}, {Long.MAX_VALUE, 0, 0}};
        for (long[] one : none) {
            Sentences.fill(x, 3, 3, one);
            s.due(call + " of a number that is none such", seen.of(x, 3), -2);
        }
        Sentences.fill(x, 3, 3, 0, 0);
        s.due(call + ", not three each", seen.of(x, 3), -2);
        Sentences.fill(x, 3, 0, 4, 1, 255);
        s.due(call + ", 255 of one byte is below 0", seen.of(x, 3), -2);
    }

    private static void may() {
        s.of(42, "SEEN (VI): how many EVENTS told can have been left out by a SLOT's row (one alone)");
        CopyWhileRun x = told();
        x.row(0, 0, 0);
        s.due("nothing was seen", x.may(0), 3);
        Sentences.fill(x, 0, 1, 4, 1, 255);
        s.due("by the act, which is not told", x.may(0), 3);
        Sentences.fill(x, 0, 1, 4, 1, 0);
        s.due("an act is not left out", x.may(0), 0);
        Sentences.fill(x, 0, 1, 2, 0, 1);
        s.due("one of two", x.may(0), 2);
        Sentences.fill(x, 0, 1, 2, 0, 0);
        s.due("not both", x.may(0), 0);
        Sentences.fill(x, 0, 1, 2, 0, 2);
        s.due("the COPY", x.may(0), 1);
        CopyWhileRun forty = Sentences.tell(HEAD + "tear;".repeat(40));
        forty.row(0, 0, 60);
        s.due("all of 40", forty.may(0), 40);
        CopyWhileRun none = Sentences.tell(HEAD);
        none.row(0, 0, 3);
        s.due("no EVENTS", none.may(0), 0);
        s.of(42, "-2: there is no such SLOT, no STORE, a number is none such (asked last), not three each");
        seenRefused("may", CopyWhileRun::may);
        s.of(42, "-6: it has nothing");
        s.all("may", -6, i -> told().may(i), 0, 1, 2, 3);
        CopyWhileRun y = told();
        y.row(0, 0, -1);
        s.due("a row refused", y.may(0), -6);
    }

    private static void which() {
        s.of(43, "The first of these");
        CopyWhileRun x = told();
        x.row(0, 0, 0);
        s.due("of all", x.which(0), 0);
        Sentences.fill(x, 0, 1, 2, 0, 1);
        s.due("of two", x.which(0), 0);
        Sentences.fill(x, 0, 1, 1, 0, 1, 2, 0, 1);
        s.due("the second", x.which(0), 1);
        Sentences.fill(x, 0, 1, 2, 0, 2);
        s.due("the last", x.which(0), 2);
        CopyWhileRun forty = Sentences.tell(HEAD + "add 0 1;".repeat(39) + "set 1 1;");
        Sentences.fill(forty, 0, 1, 40, 1, 0);
        s.due("EVENT 39", forty.which(0), 39);
        s.of(43, "NONE: none");
        Sentences.fill(x, 0, 1, 2, 0, 9);
        s.due("none", x.which(0), -1);
        CopyWhileRun none = Sentences.tell(HEAD);
        none.row(0, 0, 0);
        s.due("no EVENTS", none.which(0), -1);
        s.of(43, "-2, -6 likewise");
        seenRefused("which", CopyWhileRun::which);
    }

    private static void plain() {
        s.of(44, "1, if it is as the row tells when none was, else 0");
        CopyWhileRun x = told();
        x.row(0, 0, 0);
        s.due("nothing was seen", x.plain(0), 1);
        Sentences.fill(x, 0, 1, 0, 0, 0, 1, 0, 1, 2, 0, 2, 3, 0, 2, 4, 0, 2, 4, 1, 255);
        s.due("all is as told", x.plain(0), 1);
        x.write(0, 17, 254);
        s.due("but the last one", x.plain(0), 0);
        x.write(0, 17, 255);
        x.write(0, 2, 1);
        s.due("but the first one", x.plain(0), 0);
        CopyWhileRun none = Sentences.tell(HEAD);
        none.row(0, 0, 60);
        s.due("no EVENTS", none.plain(0), 1);
        Sentences.fill(none, 0, 0, 0, 3, 1);
        s.due("no EVENTS, not as told", none.plain(0), 0);
        s.of(44, "-2, -6 likewise");
        seenRefused("plain", CopyWhileRun::plain);
    }

    private static final String SCANNED = "store cells 6 law 0 odds 0;set 4 1;full;scan 3;fill 3 5 9;tear;";

    private static void by() {
        s.of(45, "How many CELLS are SAVED in all by a LAW in place of the one told");
        // 0 keeps 0, 1, 2; 1 keeps 5, 4, 3; 2 keeps 4, 0, 1; 3 keeps 0, 2, 4
        CopyWhileRun x = Sentences.tell(SCANNED);
        s.row("by", 0, x::by, 3, 0, 2, 2);
        CopyWhileRun other = Sentences.tell(SCANNED.replace("law 0", "law 3"));
        s.row("by, whatever is told", 0, other::by, 3, 0, 2, 2);
        s.due("the LAW told stays", other.order(0, 1), 2);
        x.does(4, 0, 0, 0);
        x.does(3, 0, 5, 1);
        s.row("by, with acts", 0, x::by, 9, 6, 8, 8);
        s.row("no COPY", 0, k -> Sentences.tell(HEAD + "set 0 1;").by(k), 0, 0, 0, 0);
        Sentences.feedText(x, HEAD + "set 0 1;");
        x.store();
        s.row("no COPY, where there were some", 0, x::by, 0, 0, 0, 0);
        // event 2 would have CHANGED cell 1, had event 0 been left out
        CopyWhileRun late = Sentences.tell(HEAD + "set 1 1;set 0 1;set 1 1;full;scan 1;set 0 2;");
        s.due("event 0 is left out", late.gets(0, 1, 1, 0), -3);
        s.due("it is there again", late.by(2), 0);
        s.of(45, "-2: there is none such (0 .. 3), no STORE");
        s.all("by", -2, x::by, -1, 4, 5, MOST, LEAST);
        s.withoutStore("by(0)", -2, y -> y.by(0));
        s.withoutStore("by(3)", -2, y -> y.by(3));
    }

    private static void law() {
        s.of(46, "The LAW by which fewest are, the least of several");
        s.due("1", Sentences.tell(SCANNED).law(), 1);
        s.due("no COPY", Sentences.tell("store cells 4 law 3 odds 0;").law(), 0);
        // 0 keeps 0, 1, 2: 1; 1 keeps 5, 4, 3: 2; 2 keeps 2, 0, 1: 1; 3 keeps 0, 2, 4: 0
        s.due("3", Sentences.tell("store cells 6 law 1 odds 0;set 2 1;full;scan 3;set 0 1;set 2 2;set 4 3;finish;").law(),
                3);
        // 0 keeps 0; 1 keeps 5; 2 keeps 3; 3 keeps 0: only the third keeps what is changed
        s.due("2", Sentences.tell("store cells 6 law 1 odds 0;set 3 1;full;scan 1;set 3 2;").law(), 2);
        // 1 keeps 5, and 2 keeps 5
        s.due("the least of several", Sentences.tell("store cells 6 law 3 odds 0;set 5 1;full;scan 1;set 5 2;").law(), 1);
        s.of(46, "-2: there is no STORE");
        s.withoutStore("law()", -2, CopyWhileRun::law);
    }

    private static void worth() {
        s.of(47, "What a set (bits by EVENTS 0 .. 7, the lowest for 0");
        CopyWhileRun x = Sentences.tell("store cells 9 law 0 odds 0;set 0 1;set 1 1;set 2 1;set 3 1;set 4 1;set 5 1;"
                + "set 6 1;fill 0 7 1;");
        s.row("worth", 0, x::worth, 0, 1, 1, 2, 1);
        s.all("one bit", 1, x::worth, 1, 2, 4, 8, 16, 32, 64);
        s.due("all but the highest", x.worth(127), 7);
        s.all("the highest", 8, x::worth, 128, 129, 255);
        s.of(47, "bits of what is no COMMAND told do not count) is worth (VII)");
        CopyWhileRun y = Sentences.tell(HEAD + "full;set 0 1;finish;");
        y.does(0, 1, 1, 0);
        s.all("the set is not there", 1, y::worth, 0, 1, 4, 5, 8, 16, 32, 64, 128, 253);
        s.all("the set is there", 2, y::worth, 2, 3, 6, 10, 130, 255);
        s.of(47, "-2: there is no such set (0 .. 255), no STORE");
        s.all("worth", -2, x::worth, -1, 256, 257, MOST, LEAST);
        s.withoutStore("worth(0)", -2, z -> z.worth(0));
        s.withoutStore("worth(255)", -2, z -> z.worth(255));
    }

    private static void share() {
        CopyWhileRun x = Sentences.tell(HEAD + "full;set 0 1;set 0 0;fill 2 3 1;finish;tear;tear;set 1 1;set 1 1;");
        x.does(0, 0, 0, 0);
        s.of(48, "SHARE (VII) of an EVENT told (one of 0 .. 7, a COMMAND), above (what 0");
        // the act makes the first two worth nothing, event 8 the last one
        s.row("share(3)", 0, w -> x.share(3, w), 2, 1);
        s.row("share(1)", 0, w -> x.share(1, w), 0, 1);
        s.row("share(7)", 0, w -> x.share(7, w), 0, 1);
        x.undo();
        s.row("share(1), the act taken back", 0, w -> x.share(1, w), 1, 2);
        s.of(48, "below 0, too), below (1)");
        s.row("share(2)", 0, w -> x.share(2, w), -1, 2);
        CopyWhileRun y = Sentences.tell(HEAD + "fill 0 3 1;fill 0 3 0;");
        s.row("a whole number", 0, w -> y.share(1, w), -2, 1);
        Sentences.feedText(y, HEAD + "set 0 1;set 1 1;set 2 1;");
        y.store();
        s.row("of three", 0, w -> y.share(2, w), 1, 1);
        Sentences.feedText(y, HEAD + "set 0 1;full;set 0 0;");
        y.store();
        s.row("of two, where there were three", 0, w -> y.share(2, w), -1, 2);
        s.row("the first of two", 0, w -> y.share(0, w), 1, 2);
        s.of(48, "-1,000: there are none such");
        s.all("share(., 0)", -1000, e -> x.share(e, 0), -1, 0, 4, 5, 6, 8, 9, 10, MOST, LEAST);
        s.all("share(., 1)", -1000, e -> x.share(e, 1), -1, 0, 8, 32, 33, MOST, LEAST);
        s.all("share(1, .)", -1000, w -> x.share(1, w), -1, 2, 3, MOST, LEAST);
        CopyWhileRun few = Sentences.tell(HEAD + "set 0 1;");
        few.does(0, 1, 1, 0);
        s.due("an act among the first eight", few.share(1, 0), -1000);
        s.withoutStore("share(0, 0)", -1000, z -> z.share(0, 0));
        s.withoutStore("share(0, 1)", -1000, z -> z.share(0, 1));
    }

    private static void rests() {
        s.of(49, "GAME (VIII): pairs of choices of two EVENTS told at REST, as bits: 1 neither is left out, "
                + "2 the first one is, 4 the other one, 8 both");
        s.due("1", Sentences.tell(HEAD + "full;finish;").rests(0, 1), 1);
        s.due("1, neither counts", Sentences.tell(HEAD + "full;finish;set 0 1;set 1 1;").rests(2, 3), 1);
        CopyWhileRun x = Sentences.tell(HEAD + "full;tear;finish;");
        s.due("2", x.rests(1, 2), 2);
        s.due("4", x.rests(2, 1), 4);
        s.due("1 and 8", Sentences.tell(HEAD + "full;tear;tear;finish;").rests(1, 2), 9);
        s.due("1 and 8, as much", Sentences.tell("store cells 3 law 0 odds 0;full;tear;tear;finish;").rests(1, 2), 9);
        s.due("1, not 8", Sentences.tell("store cells 2 law 0 odds 0;full;tear;tear;finish;").rests(1, 2), 1);
        CopyWhileRun forty = Sentences.tell(HEAD + "full;tear;" + "scan 1;".repeat(37) + "finish;");
        s.due("EVENT 39", forty.rests(1, 39), 2);
        s.due("EVENT 39 first", forty.rests(39, 1), 4);
        s.of(49, "-2: there are none such, one twice");
        s.all("rests(0, .)", -2, e -> x.rests(0, e), -1, 3, 4, 40, MOST, LEAST);
        s.all("rests(., 0)", -2, e -> x.rests(e, 0), -1, 3, 4, 40, MOST, LEAST);
        s.all("one twice", -2, e -> x.rests(e, e), 0, 1, 2, 3, -1);
        x.does(7, 0, 0, 0);
        s.due("an act", x.rests(0, 3), -2);
        s.due("an act first", x.rests(3, 0), -2);
        s.withoutStore("rests(0, 1)", -2, y -> y.rests(0, 1));
    }

    private static void gets() {
        CopyWhileRun x = Sentences.tell(HEAD + "full;tear;finish;");
        s.of(50, "What the first of two GETS by the choices (1 it is left out, 0 not");
        s.row("gets(1, 2, x, 0)", 0, v -> x.gets(1, 2, v, 0), 0, 1);
        s.row("gets(2, 1, 0, y)", 0, v -> x.gets(2, 1, 0, v), 0, 4);
        CopyWhileRun forty = Sentences.tell(HEAD + "full;" + "scan 1;".repeat(38) + "finish;");
        s.row("EVENT 39", 0, v -> forty.gets(39, 0, v, 0), 4, -3);
        s.row("EVENT 39, the other one", 0, v -> forty.gets(0, 39, 0, v), 4, 0);
        CopyWhileRun most = Sentences.tell("store cells 32 law 0 odds 0;" + "full;finish;".repeat(20));
        for (int i = 0; i < 20; i++) {
            most.does(i % 2 == 0 ? 4 : 7, 0, 0, 0);
        }
        s.due("the most, acts there", most.gets(0, 1, 0, 0), 960);
        s.of(50, "below 0, too)");
        s.due("neither is there", x.gets(1, 2, 1, 1), -3);
        s.due("the second one is not", x.gets(2, 1, 1, 0), -3);
        s.of(50, "-1,000: there are none such, one twice");
        s.all("gets(0, ., 0, 0)", -1000, e -> x.gets(0, e, 0, 0), -1, 3, 4, 40, MOST, LEAST);
        s.all("gets(., 0, 0, 0)", -1000, e -> x.gets(e, 0, 0, 0), -1, 3, 4, 40, MOST, LEAST);
        s.all("gets(0, 1, ., 0)", -1000, v -> x.gets(0, 1, v, 0), -1, 2, 3, MOST, LEAST);
        s.all("gets(0, 1, 0, .)", -1000, v -> x.gets(0, 1, 0, v), -1, 2, 3, MOST, LEAST);
        s.all("one twice", -1000, e -> x.gets(e, e, 0, 0), 0, 1, 2, 3, -1);
        x.does(7, 0, 0, 0);
        s.due("an act", x.gets(0, 3, 0, 0), -1000);
        s.due("an act first", x.gets(3, 0, 0, 0), -1000);
        s.withoutStore("gets(0, 1, 0, 0)", -1000, y -> y.gets(0, 1, 0, 0));
    }
}
