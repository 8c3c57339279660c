/** Promises 1 to 7, sentence by sentence: a new object, the tape, stores, faults, events, refusals. */
public final class EdgesOfStoresTest {
    private static final int MOST = Integer.MAX_VALUE;
    private static final int LEAST = Integer.MIN_VALUE;
    private static final int BLANKS = 0x20202020;
    private static final String HEAD = "store cells 4 law 0 odds 5;";
    private static Sentences s;

    public static void main(String[] args) throws Exception {
        s = new Sentences(1, 7);
        aNewObject();
        feed();
        end();
        store();
        fault();
        event();
        refused();
        s.end();
    }

    private static void aNewObject() {
        s.of(1, "No STORE");
        CopyWhileRun x = new CopyWhileRun();
        s.row("count", -1, x::count, -1, 0, 0, 0, 0, 0, 0, 0, 0, -1);
        s.row("fault", -1, x::fault, -1, 0, -1, -1);
        s.due("event(0, 0)", x.event(0, 0), -2);
        s.due("sum(0)", x.sum(0), -2);
        s.due("copy(0, 0)", x.copy(0, 0), -2);
        s.due("worst()", x.worst(), -2);
        s.due("share(0, 0)", x.share(0, 0), -1000);
        s.due("undo()", x.undo(), -2);
        s.row("back", -1, x::back, -2, -6, -6, -6, -2);
        s.row("write", -1, i -> x.write(i, 0, 0), -2, -6, -6, -6, -6, -2);
        s.due("store()", x.store(), 0);
        CopyWhileRun other = Sentences.tell(HEAD);
        s.due("another object's STORE", other.count(5), 1);
        s.due("is not this one's", x.count(5), 0);
    }

    /** Feeds blanks with a # among them. */
    private static int feedSign(CopyWhileRun x, int at) {
        int[] five = {BLANKS, BLANKS, BLANKS, BLANKS, BLANKS};
        int shift = 24 - 8 * (at % 4);
        five[at / 4] = BLANKS & ~(255 << shift) | '#' << shift;
        return x.feed(five[0], five[1], five[2], five[3], five[4]);
    }

    private static int feedBlanks(CopyWhileRun x) {
        return x.feed(BLANKS, BLANKS, BLANKS, BLANKS, BLANKS);
    }

    private static void feed() {
        s.of(2, "Twenty bytes come behind the TAPE, four of each number, the highest first: how many it has");
        CopyWhileRun x = new CopyWhileRun();
        for (int at = 0; at < 20; at++) {
            s.due("feed of an empty tape", feedSign(x, at), 20);
            x.store();
            s.due("fault(1)", x.fault(1), at);
            s.due("feed of an empty tape", feedBlanks(x), 20);
            s.due("feed behind 20", feedSign(x, at), 40);
            x.store();
            s.due("fault(1)", x.fault(1), 20 + at);
        }
        s.due("all bits", x.feed(-1, -1, -1, -1, -1), 20);
        s.due("the lowest number", x.feed(LEAST, LEAST, LEAST, LEAST, LEAST), 40);
        s.due("the highest number", x.feed(MOST, MOST, MOST, MOST, MOST), 60);
        s.of(2, "NONE, and none come, if it would have more than 700");
        CopyWhileRun y = new CopyWhileRun();
        for (int i = 1; i <= 35; i++) {
            s.due("feed " + i, feedBlanks(y), 20 * i);
        }
        s.due("feed of a full tape", feedSign(y, 0), -1);
        s.due("it has 700", y.count(6), 700);
        y.end(681);
        s.due("feed of 681", feedSign(y, 0), -1);
        s.due("it has 681", y.count(6), 681);
        s.due("none came", y.store(), 0);
        for (int i = 1; i <= 34; i++) {
            feedBlanks(y);
        }
        s.due("feed of 680", feedSign(y, 19), 700);
        s.due("its last byte counts", y.store(), -4);
        s.due("at its place", y.fault(1), 699);
    }

    private static void end() {
        s.of(3, "The TAPE has its first n bytes alone: n");
        CopyWhileRun x = new CopyWhileRun();
        s.due("end(0) of an empty tape", x.end(0), 0);
        feedSign(x, 7);
        s.due("end of all", x.end(20), 20);
        s.due("end of one less", x.end(19), 19);
        s.due("end behind the sign", x.end(8), 8);
        s.due("count(6)", x.count(6), 8);
        s.due("the sign is there", x.store(), -4);
        feedSign(x, 7);
        s.due("end ahead of the sign", x.end(7), 7);
        s.due("feed behind 7", feedSign(x, 3), 27);
        x.store();
        s.due("what comes stands behind it", x.fault(1), 10);
        feedSign(x, 7);
        x.end(7);
        s.due("the sign is gone", x.store(), 0);
        for (int i = 1; i <= 35; i++) {
            feedBlanks(x);
        }
        s.due("end(700)", x.end(700), 700);
        s.due("end(0)", x.end(0), 0);
        s.of(3, "NONE, and nothing happens, if it has not so many, or n is below 0");
        CopyWhileRun y = new CopyWhileRun();
        s.all("end of an empty tape", -1, y::end, 1, 20, 700, MOST, -1, LEAST);
        feedSign(y, 7);
        s.all("end", -1, y::end, 21, 700, MOST, -1, -20, LEAST);
        s.due("count(6)", y.count(6), 20);
        y.end(10);
        s.all("end, cut once", -1, y::end, 11, 20, -1);
        s.due("count(6)", y.count(6), 10);
        s.due("store()", y.store(), -4);
        s.due("the sign stands", y.fault(1), 7);
        s.due("end behind store()", y.end(1), -1);
    }

    private static void store() {
        s.of(4, "The TAPE (empty then) is the STORE (in place of another), nothing done: "
                + "how many LINES (0: there is none then)");
        CopyWhileRun x = new CopyWhileRun();
        s.due("an empty tape", x.store(), 0);
        Sentences.feedText(x, HEAD + "set 0 1;full;");
        s.due("three", x.store(), 3);
        s.due("the tape is empty", x.count(6), 0);
        x.does(7, 0, 0, 0);
        x.image(0);
        Sentences.fill(x, 1, 0, 1, 2, 3);
        Sentences.feedText(x, "store cells 2 law 3 odds 10;");
        s.due("one, in place of another", x.store(), 1);
        s.row("count", 0, x::count, 2, 3, 10, 0, 0, 1, 0, 1);
        s.due("there is no TICK 1", x.sum(1), -2);
        s.due("there is no COPY", x.copy(0, 0), -2);
        s.due("no act can be taken back", x.undo(), -5);
        Sentences.feedText(x, HEAD + "tear;".repeat(40));
        s.due("41", x.store(), 41);
        Sentences.feedText(x, " \n");
        s.due("blanks", x.store(), 0);
        s.row("there is none then", 0, x::count, 0, 0, 0, 0, 0, 0, 0, 1);
        s.due("value(0, 0)", x.value(0, 0), -2);
        s.due("event(0, 0)", x.event(0, 0), -2);
        s.due("the image stays", x.back(0), 0);
        s.due("it has an act", x.count(4), 1);
        s.due("store() again, an empty tape", x.store(), 0);
        s.due("there is none again", x.count(5), 0);
        s.due("the longest text", Sentences.reads(HEAD + " ".repeat(668) + "tear;"), 2);
        Sentences.feedText(x, "store cells 9 law 3 odds 7;tear;#");
        s.due("a fault behind a head", x.store(), -4);
        s.due("an empty tape behind it", x.store(), 0);
        s.row("nothing of it is left", 0, x::count, 0, 0, 0, 0, 0, 0);
        Sentences.feedText(x, "store cells 4 law 2 odds 9;set 3 1;set 1 1;full;scan 32;");
        x.store();
        s.row("order by what was CHANGED", 0, i -> x.order(0, i), 1, 3, 0, 2);
        Sentences.feedText(x, "store cells 4 law 2 odds 9;set 3 0;tear;full;scan 32;");
        x.store();
        s.row("what another STORE CHANGED does not count", 0, i -> x.order(0, i), 0, 1, 2, 3);
        x.store();
        s.row("there is none, whatever there was", 0, x::count, 0, 0, 0, 0, 0, 0);
        s.of(4, "-4: a FAULT (all stays)");
        CopyWhileRun y = Sentences.tell(HEAD + "set 0 1;full;");
        y.does(0, 1, 9, 0);
        Sentences.fill(y, 1, 1, 3, 1, 9);
        y.image(2);
        Sentences.feedText(y, "store cells 2 law 3 odds 10;set 0 3;set 2 1;");
        s.due("a FAULT", y.store(), -4);
        s.row("count", 0, y::count, 4, 0, 5, 2, 1, 3, 0, 1);
        s.due("value(0, 1)", y.value(0, 1), 1);
        s.due("the act", y.value(1, 3), 9);
        s.due("the OPEN COPY", y.open(3), 0);
        s.due("the slot", y.plain(1), 1);
        s.due("the image", y.back(2), 0);
        CopyWhileRun none = new CopyWhileRun();
        Sentences.feedText(none, HEAD + "x");
        s.due("a FAULT, no STORE", none.store(), -4);
        s.due("there is none", none.count(0), 0);
        s.due("the tape is empty", none.count(6), 0);
    }

    private static void fault() {
        s.of(5, "Of the latest store(), what 0: its FAULT, 0 without, 1: its place (NONE without)");
        CopyWhileRun x = Sentences.tell(HEAD + "set 4 1;");
        s.row("fault", 0, x::fault, 2, 31);
        Sentences.feedText(x, "#");
        s.row("a tape does not count", 0, x::fault, 2, 31);
        x.store();
        s.row("fault at 0", 0, x::fault, 1, 0);
        Sentences.feedText(x, HEAD + "tear;".repeat(41));
        x.store();
        s.row("fault", 0, x::fault, 3, 227);
        Sentences.feedText(x, HEAD);
        x.store();
        s.row("without", 0, x::fault, 0, -1);
        x.image(0);
        Sentences.feedText(x, "store");
        x.store();
        x.back(0);
        s.row("of the latest store(), not of the image", 0, x::fault, 1, 5);
        x.store();
        s.row("an empty tape", 0, x::fault, 0, -1);
        s.of(5, "NONE for another what, and ahead of any (what 1)");
        CopyWhileRun y = new CopyWhileRun();
        s.due("fault(0)", y.fault(0), 0);
        s.due("fault(1)", y.fault(1), -1);
        s.all("fault", -1, y::fault, -1, 2, 3, MOST, LEAST);
        CopyWhileRun z = Sentences.tell("#");
        s.all("fault", -1, z::fault, -1, 2, 3, MOST, LEAST);
    }

    private static void event() {
        CopyWhileRun x = Sentences.tell(HEAD
                + "set 3 255;add 2 0;swap 3 0;fill 0 3 255;full;part;scan 32;finish;tear;");
        x.does(3, 1, 2, 8);
        x.does(6, 1, 0, 0);
        x.does(0, 0, 0, 0);
        int[][] told = {{0, 3, 255, -1}, {1, 2, 0, -1}, {2, 3, 0, -1}, {3, 0, 3, 255}, {4, -1, -1, -1},
            {5, -1, -1, -1}, {6, 32, -1, -1}, {7, -1, -1, -1}, {8, -1, -1, -1}, {3, 1, 2, 8}, {6, 1, -1, -1},
            {0, 0, 0, -1}};
        s.of(6, "Of an EVENT (told, of acts behind these), what 0: its kind (0 set, 1 add, 2 swap, 3 fill, 4 full, 5 part, "
                + "6 scan, 7 finish, 8 tear), 1 .. 3: its numbers (NONE: it has none such)");
        for (int i = 0; i < told.length; i++) {
            for (int w = 0; w < 4; w++) {
                s.due("event(" + i + ", " + w + ")", x.event(i, w), told[i][w]);
            }
        }
        s.of(6, "-2: there are none such");
        s.all("event(., 0)", -2, e -> x.event(e, 0), -1, 12, 40, 60, MOST, LEAST);
        s.all("event(., 3)", -2, e -> x.event(e, 3), -1, 12, MOST, LEAST);
        s.all("event(0, .)", -2, w -> x.event(0, w), -1, 4, MOST, LEAST);
        s.all("event(4, .), it has no numbers", -2, w -> x.event(4, w), -1, 4);
        s.due("neither", x.event(12, 4), -2);
        x.undo();
        s.due("an act taken back", x.event(11, 0), -2);
        s.due("the one ahead", x.event(10, 0), 6);
        s.withoutStore("event(0, 0)", -2, y -> y.event(0, 0));
        s.due("no EVENTS", Sentences.tell(HEAD).event(0, 0), -2);
    }

    private static void refused() {
        CopyWhileRun x = Sentences.tell(HEAD
                + "part;scan 1;finish;tear;full;full;part;tear;part;full;finish;finish;part;part;tear;tear;set 0 1;");
        s.of(7, "Why an EVENT is REFUSED (III)");
        int[] why = {3, 2, 2, 2, 0, 1, 1, 0, 3, 0, 0, 2, 0, 1, 0, 2, 0};
        for (int i = why.length - 1; i >= 0; i--) {
            s.due("refused(" + i + ")", x.refused(i), why[i]);
        }
        s.due("an act", x.does(6, 1, 0, 0), 2);
        s.due("refused(17)", x.refused(17), 2);
        s.of(7, "0: it is not");
        s.all("COMMANDS", 0, e -> Sentences.tell(HEAD + "set 0 0;add 0 0;swap 0 1;fill 0 3 0;").refused(e), 0, 1, 2, 3);
        CopyWhileRun idle = Sentences.tell(HEAD + "full;scan 32;scan 1;finish;part;scan 1;finish;part;tear;");
        s.all("none is left to scan", 0, idle::refused, 0, 1, 2, 3, 4, 5, 6, 7, 8);
        s.of(7, "-2: there is none such");
        s.all("refused", -2, x::refused, -1, 18, 40, 60, MOST, LEAST);
        s.withoutStore("refused(0)", -2, y -> y.refused(0));
        s.due("no EVENTS", Sentences.tell(HEAD).refused(0), -2);
    }
}
