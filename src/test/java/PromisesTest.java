/** Each promise of the document by hand: ordinary inputs, edges, and wrong inputs. */
public final class PromisesTest {
    private static final String HEAD = "store cells 4 law 0 odds 5;";
    private static final String TALE = "store cells 3 law 1 odds 4;"
            + "set 0 200;add 0 100;swap 0 1;fill 0 2 44;full;scan 1;add 1 0;set 1 9;tear;"
            + "full;finish;part;set 2 44;set 0 1;scan 1;finish;";
    private static int wrong = 0;
    private static int asked = 0;

    private static void due(int promise, String call, long got, long want) {
        asked++;
        if (got != want) {
            wrong++;
            System.out.println("promise " + promise + ": " + call + " answered " + got + ", due is " + want);
        }
    }

    private static void dueAll(int promise, String call, int[] got, int... want) {
        for (int i = 0; i < Math.max(got.length, want.length); i++) {
            due(promise, call + " [" + i + "]", i < got.length ? got[i] : -99, i < want.length ? want[i] : -98);
        }
    }

    private interface Ask {
        int of(int i);
    }

    private static int[] each(int from, int to, Ask ask) {
        int[] answers = new int[to - from + 1];
        for (int i = from; i <= to; i++) {
            answers[i - from] = ask.of(i);
        }
        return answers;
    }

    /** Feeds a text to the tape, and cuts off what was padded. */
    private static void feedText(CopyWhileRun x, String text) {
        int was = x.count(6);
        for (int i = 0; i < text.length(); i += 20) {
            int[] five = new int[5];
            for (int k = 0; k < 20; k++) {
                five[k / 4] = five[k / 4] << 8 | (i + k < text.length() ? text.charAt(i + k) & 255 : ' ');
            }
            x.feed(five[0], five[1], five[2], five[3], five[4]);
        }
        x.end(was + text.length());
    }

    private static CopyWhileRun tell(String text) {
        CopyWhileRun x = new CopyWhileRun();
        feedText(x, text);
        x.store();
        return x;
    }

    public static void main(String[] args) {
        aNewObject();
        tape();
        stores();
        faults();
        events();
        refusals();
        values();
        dirtyCells();
        regions();
        copiesByTick();
        copyByCopy();
        laws();
        costs();
        chains();
        longChain();
        ages();
        ticks();
        paces();
        leftOut();
        seen();
        lawsCompared();
        shares();
        games();
        chances();
        acts();
        draws();
        counts();
        images();
        rows();
        pastes();
        System.out.println(asked + " answers by hand, " + wrong + " not as due");
        if (wrong != 0) {
            System.exit(1);
        }
    }

    private static void aNewObject() {
        due(1, "NONE", CopyWhileRun.NONE, -1);
        CopyWhileRun x = new CopyWhileRun();
        dueAll(1, "count", each(-1, 8, x::count), -1, 0, 0, 0, 0, 0, 0, 0, 0, -1);
        due(1, "event(0, 0)", x.event(0, 0), -2);
        due(1, "refused(0)", x.refused(0), -2);
        due(1, "value(0, 0)", x.value(0, 0), -2);
        due(1, "sum(0)", x.sum(0), -2);
        due(1, "changes(0)", x.changes(0), -2);
        due(1, "latest(0, 0)", x.latest(0, 0), -2);
        due(1, "dirty(0, 0)", x.dirty(0, 0), -2);
        due(1, "saved(0, 0)", x.saved(0, 0), -2);
        due(1, "restored(0, 0)", x.restored(0, 0), -2);
        due(1, "source(0, 0)", x.source(0, 0), -2);
        due(1, "which(0)", x.which(0), -2);
        due(1, "plain(0)", x.plain(0), -2);
        due(1, "share(0, 0)", x.share(0, 0), -1000);
        due(1, "undo()", x.undo(), -2);
        due(1, "write(0, 0, 1)", x.write(0, 0, 1), -6);
        due(1, "paste(0, 0, 0, 0, 0)", x.paste(0, 0, 0, 0, 0), -6);
        dueAll(1, "back", each(-1, 3, x::back), -2, -6, -6, -6, -2);
    }

    private static void tape() {
        CopyWhileRun x = new CopyWhileRun();
        for (int i = 1; i <= 35; i++) {
            due(2, "feed " + i, x.feed(0, 0, 0, 0, 0), 20 * i);
        }
        due(2, "feed beyond 700", x.feed(0, 0, 0, 0, 0), -1);
        due(2, "count(6)", x.count(6), 700);
        due(3, "end(701)", x.end(701), -1);
        due(3, "end(-1)", x.end(-1), -1);
        due(3, "count(6)", x.count(6), 700);
        due(3, "end(700)", x.end(700), 700);
        due(3, "end(681)", x.end(681), 681);
        due(2, "feed at 681", x.feed(0, 0, 0, 0, 0), -1);
        due(2, "count(6)", x.count(6), 681);
        due(3, "end(680)", x.end(680), 680);
        due(2, "feed at 680", x.feed(0, 0, 0, 0, 0), 700);
        due(3, "end(0)", x.end(0), 0);
        due(3, "end(1)", x.end(1), -1);
        due(2, "feed of an empty tape", x.feed(-1, -1, -1, -1, -1), 20);
        x.end(0);
        // "stor|e ce|lls |2 la|w 0 |" and "odds| 0; |": the highest byte first
        x.feed(0x73746f72, 0x65206365, 0x6c6c7320, 0x32206c61, 0x77203020);
        x.feed(0x6f646473, 0x20303b20, 0x20202020, 0x20202020, 0x20202020);
        due(2, "bytes in their order", x.store(), 1);
    }

    private static void stores() {
        CopyWhileRun x = new CopyWhileRun();
        due(4, "an empty tape", x.store(), 0);
        feedText(x, TALE);
        due(4, "a store", x.store(), 17);
        due(4, "the tape is empty then", x.count(6), 0);
        x.does(4, 0, 0, 0);
        feedText(x, HEAD + "set 4 1;");
        due(4, "a fault", x.store(), -4);
        due(4, "the tape is empty behind a fault", x.count(6), 0);
        due(4, "the store stays", x.count(5), 17);
        due(4, "acts stay", x.count(4), 1);
        feedText(x, "store cells 32 law 3 odds 10;\n  tear ;");
        due(4, "in place of another", x.store(), 2);
        dueAll(4, "count", each(0, 5, x::count), 32, 3, 10, 1, 0, 2);
        feedText(x, " \n ");
        due(4, "blanks alone", x.store(), 0);
        due(4, "there is none then", x.sum(0), -2);
        dueAll(4, "count", each(0, 5, x::count), 0, 0, 0, 0, 0, 0);
        due(4, "close by", reads("storecells2law0odds0;"), -4);
        due(4, "words and numbers touch", reads("store cells2law0odds0;set0 1;scan1;full;"), 4);
        due(4, "noughts ahead", reads("store cells 002 law 0000000000000000003 odds 00;"), 1);
        StringBuilder most = new StringBuilder(HEAD);
        for (int i = 0; i < 40; i++) {
            most.append("full;");
        }
        due(4, "40 events", reads(most.toString()), 41);
    }

    private static int reads(String text) {
        CopyWhileRun x = new CopyWhileRun();
        feedText(x, text);
        return x.store();
    }

    private static void faultOf(String text, int fault, int place) {
        CopyWhileRun x = new CopyWhileRun();
        feedText(x, text);
        due(4, "store of " + text, x.store(), -4);
        due(5, "fault(0) of " + text, x.fault(0), fault);
        due(5, "fault(1) of " + text, x.fault(1), place);
    }

    private static void faults() {
        CopyWhileRun x = new CopyWhileRun();
        dueAll(5, "fault, ahead of any", each(-1, 2, x::fault), -1, 0, -1, -1);
        feedText(x, "x");
        x.store();
        dueAll(5, "fault", each(-1, 2, x::fault), -1, 1, 0, -1);
        feedText(x, HEAD);
        x.store();
        dueAll(5, "fault of the latest", each(-1, 2, x::fault), -1, 0, -1, -1);
        faultOf(";", 1, 0);
        faultOf(" 7", 1, 1);
        faultOf("set 0 1;" + HEAD, 1, 0);
        faultOf("stor cells 4 law 0 odds 5;", 1, 0);
        faultOf("stores cells 4 law 0 odds 5;", 1, 0);
        faultOf("store law 0 cells 4 odds 5;", 1, 6);
        faultOf("store cells x", 1, 12);
        faultOf("store cells 1 law 0 odds 5;", 2, 12);
        faultOf("store cells 33 law 0 odds 5;", 2, 12);
        faultOf("store cells 4 law 4 odds 5;", 2, 18);
        faultOf("store cells 4 law 0 odds 11;", 2, 25);
        faultOf("store cells 4 law 0 odds 5", 1, 26);
        faultOf("store cells 4 law 0 odds 5  \n", 1, 29);
        faultOf("store cells 4 5 law 0 odds 5;", 1, 14);
        faultOf("store", 1, 5);
        faultOf(HEAD + HEAD, 1, 27);
        faultOf(HEAD + ";", 1, 27);
        faultOf(HEAD + "3", 1, 27);
        faultOf(HEAD + "Set 0 1;", 1, 27);
        faultOf(HEAD + "cells 4;", 1, 27);
        faultOf(HEAD + "se 0 1;", 1, 27);
        faultOf(HEAD + "sett 0 1;", 1, 27);
        faultOf(HEAD + "zet 0 1;", 1, 27);
        faultOf(HEAD + "setz 0 1;", 1, 27);
        faultOf(HEAD + "set 0 1z;", 1, 34);
        faultOf(HEAD + "set 0 1`;", 1, 34);
        faultOf(HEAD + "set 0 1{;", 1, 34);
        faultOf(HEAD + "set 0 1/;", 1, 34);
        faultOf(HEAD + "set 0 1:;", 1, 34);
        faultOf(HEAD + "set 4 1;", 2, 31);
        faultOf(HEAD + "set 3 256;", 2, 33);
        faultOf(HEAD + "set 3 99999999999999999999999;", 2, 33);
        faultOf(HEAD + "set 3 4294967297;", 2, 33);
        faultOf(HEAD + "set 3;", 1, 32);
        faultOf(HEAD + "set 3 1 1;", 1, 35);
        faultOf(HEAD + "set 3 -1;", 1, 33);
        faultOf(HEAD + "set 3 1\t;", 1, 34);
        faultOf(HEAD + "set 3 1" + (char) 187 + ";", 1, 34);
        faultOf(HEAD + "add 4 1;", 2, 31);
        faultOf(HEAD + "add 0 256;", 2, 33);
        faultOf(HEAD + "swap 2 2;", 2, 34);
        faultOf(HEAD + "swap 4 2;", 2, 32);
        faultOf(HEAD + "swap 2 4;", 2, 34);
        faultOf(HEAD + "swap 2 1 0;", 1, 36);
        faultOf(HEAD + "fill 2 1 0;", 2, 34);
        faultOf(HEAD + "fill 2 4 0;", 2, 34);
        faultOf(HEAD + "fill 4 4 0;", 2, 32);
        faultOf(HEAD + "fill 2 2 256;", 2, 36);
        faultOf(HEAD + "fill 2 2;", 1, 35);
        faultOf(HEAD + "scan;", 1, 31);
        faultOf(HEAD + "scan 0;", 2, 32);
        faultOf(HEAD + "scan 33;", 2, 32);
        faultOf(HEAD + "full 1;", 1, 32);
        faultOf(HEAD + "full full;", 1, 32);
        faultOf(HEAD + "finish", 1, 33);
        faultOf(HEAD + "set 9 x;zzz;", 2, 31);
        faultOf(HEAD + "set 0 x;set 9 9;", 1, 33);
        String forty = HEAD + "tear;".repeat(40);
        faultOf(forty + "set 9 9;", 3, 227);
        faultOf(forty + "\n scan 0;", 3, 229);
        faultOf(forty + "store cells 4;", 1, 227);
        faultOf(forty + "scann 0;", 1, 227);
        faultOf(forty + ";", 1, 227);
        due(4, "edges in bounds", reads(HEAD + "set 3 255;add 0 0;swap 3 0;fill 0 0 0;fill 0 3 255;"
                + "scan 1;scan 32;"), 8);
    }

    private static void events() {
        CopyWhileRun x = tell(TALE);
        due(6, "event(0, 0)", x.event(0, 0), 0);
        dueAll(6, "event of set", each(-1, 4, w -> x.event(0, w)), -2, 0, 0, 200, -1, -2);
        dueAll(6, "event of add", each(0, 3, w -> x.event(1, w)), 1, 0, 100, -1);
        dueAll(6, "event of swap", each(0, 3, w -> x.event(2, w)), 2, 0, 1, -1);
        dueAll(6, "event of fill", each(0, 3, w -> x.event(3, w)), 3, 0, 2, 44);
        dueAll(6, "event of full", each(0, 3, w -> x.event(4, w)), 4, -1, -1, -1);
        dueAll(6, "event of scan", each(0, 3, w -> x.event(5, w)), 6, 1, -1, -1);
        dueAll(6, "event of tear", each(0, 3, w -> x.event(8, w)), 8, -1, -1, -1);
        dueAll(6, "event of finish", each(0, 3, w -> x.event(10, w)), 7, -1, -1, -1);
        dueAll(6, "event of part", each(0, 3, w -> x.event(11, w)), 5, -1, -1, -1);
        due(6, "event(-1, 0)", x.event(-1, 0), -2);
        due(6, "event(16, 0)", x.event(16, 0), -2);
        x.does(3, 1, 2, 8);
        dueAll(6, "event of an act", each(0, 3, w -> x.event(16, w)), 3, 1, 2, 8);
        due(6, "event(17, 0)", x.event(17, 0), -2);
    }

    private static void refusals() {
        CopyWhileRun x = tell(HEAD + "part;scan 1;finish;tear;full;full;part;tear;part;full;finish;finish;part;"
                + "part;tear;tear;set 0 1;");
        dueAll(7, "refused", each(-1, 17, x::refused),
                -2, 3, 2, 2, 2, 0, 1, 1, 0, 3, 0, 0, 2, 0, 1, 0, 2, 0, -2);
        due(7, "a refused full begins nothing", x.copies(17), 3);
        due(53, "does(8)", x.does(8, 0, 0, 0), 2);
        due(7, "refused(17)", x.refused(17), 2);
        dueAll(7, "of a torn part", each(0, 6, w -> x.copy(2, w)), 0, 12, 2, 0, 0, 0, 15);
    }

    private static void values() {
        CopyWhileRun x = tell(TALE);
        dueAll(8, "value(0)", each(-1, 17, t -> x.value(0, t)),
                -2, 0, 200, 44, 0, 44, 44, 44, 44, 44, 44, 44, 44, 44, 44, 1, 1, 1, -2);
        dueAll(8, "value(1)", each(0, 8, t -> x.value(1, t)), 0, 0, 0, 44, 44, 44, 44, 44, 9);
        due(8, "value(3, 0)", x.value(3, 0), -2);
        due(8, "value(-1, 0)", x.value(-1, 0), -2);
        dueAll(9, "sum", each(-1, 17, x::sum),
                -2, 0, 200, 44, 44, 132, 132, 132, 132, 97, 97, 97, 97, 97, 97, 54, 54, 54, -2);
        dueAll(10, "changes", each(-1, 16, x::changes),
                -2, 1, 1, 2, 2, 0, 0, 0, 1, 0, 0, 0, 0, 0, 1, 0, 0, -2);
        dueAll(11, "latest(1)", each(-1, 17, t -> x.latest(1, t)),
                -2, -1, -1, -1, 2, 2, 2, 2, 2, 7, 7, 7, 7, 7, 7, 7, 7, 7, -2);
        due(11, "latest(3, 0)", x.latest(3, 0), -2);
        due(11, "latest(-1, 0)", x.latest(-1, 0), -2);
        x.does(1, 2, 212, 0);
        due(8, "256 is 0", x.value(2, 17), 0);
        due(11, "latest by an act", x.latest(2, 17), 16);
        CopyWhileRun y = tell(HEAD + "swap 3 0;set 3 1;swap 3 0;swap 0 3;add 3 255;add 3 255;");
        dueAll(10, "changes of swaps", each(0, 5, y::changes), 0, 1, 2, 2, 1, 1);
        dueAll(8, "value(3)", each(0, 6, t -> y.value(3, t)), 0, 0, 1, 0, 1, 0, 255);
    }

    private static void dirtyCells() {
        CopyWhileRun x = tell(TALE);
        dueAll(12, "dirty(1)", each(-1, 17, t -> x.dirty(1, t)),
                -2, 0, 0, 0, 1, 1, 1, 1, 1, 1, 1, 1, 0, 0, 0, 0, 0, 0, -2);
        dueAll(12, "dirty(0)", each(0, 16, t -> x.dirty(0, t)),
                0, 1, 1, 1, 1, 1, 1, 1, 1, 1, 1, 0, 0, 0, 1, 1, 1);
        due(12, "dirty(3, 0)", x.dirty(3, 0), -2);
        due(12, "dirty(-1, 0)", x.dirty(-1, 0), -2);
        dueAll(13, "dirties", each(-1, 17, x::dirties),
                -2, 0, 1, 1, 2, 3, 3, 3, 3, 3, 3, 3, 0, 0, 0, 1, 1, 1, -2);
        CopyWhileRun back = tell(HEAD + "set 0 1;set 0 0;full;set 1 1;finish;");
        dueAll(12, "changed and changed back", each(0, 5, t -> back.dirty(0, t)), 0, 1, 1, 1, 1, 0);
        due(12, "changed while it is open", back.dirty(1, 5), 1);
    }

    private static void regions() {
        CopyWhileRun x = tell("store cells 32 law 0 odds 0;set 0 1;set 31 1;set 30 1;");
        dueAll(14, "region(0)", each(-1, 32, i -> i == 0 || i == 31 ? x.region(0, i, 2) - 1 : x.region(0, i, 2)),
                -2, 0, 0, 0, 0, 0, 0, 0, 0, 0, 0, 0, 0, 0, 0, 0, 0, 0, 0, 0, 0, 0, 0, 0, 0, 0, 0, 0, 0, 0, 0, 0, 0,
                -2);
        dueAll(14, "region(3)", each(-1, 4, i -> x.region(3, i, 2)), -2, 1, 0, 0, 1, -2);
        dueAll(14, "region(4)", each(-1, 2, i -> x.region(4, i, 1)), -2, 1, 0, -2);
        dueAll(14, "region by levels", each(-1, 6, k -> x.region(k, 0, 1)), -2, 1, 1, 1, 1, 1, 1, -2);
        due(14, "region(5, 1, 2)", x.region(5, 1, 2), -2);
        due(14, "region(0, 0, 4)", x.region(0, 0, 4), -2);
        due(14, "region(0, 0, -1)", x.region(0, 0, -1), -2);
        dueAll(15, "regions", each(-1, 6, k -> x.regions(k, 3)), -2, 3, 2, 2, 2, 2, 1, -2);
        due(15, "regions(0, 4)", x.regions(0, 4), -2);
        due(15, "regions(0, -1)", x.regions(0, -1), -2);
        dueAll(16, "looks", each(-1, 4, x::looks), -2, 1, 11, 19, 19, -2);
        x.does(3, 0, 31, 9);
        due(16, "looks at all", x.looks(4), 63);
        due(15, "regions(2, 4)", x.regions(2, 4), 8);
        CopyWhileRun few = tell(HEAD + "fill 0 3 1;");
        due(14, "beyond the cells told", few.region(0, 4, 1), 0);
        due(14, "region(0, 31, 1)", few.region(0, 31, 1), 0);
        due(16, "looks(1)", few.looks(1), 1 + 2 * (1 + 1 + 1 + 1 + 2));
    }

    private static void copiesByTick() {
        CopyWhileRun x = tell(TALE);
        dueAll(17, "copies", each(-1, 17, x::copies),
                -2, 0, 0, 0, 0, 0, 1, 1, 1, 1, 1, 2, 2, 3, 3, 3, 3, 3, -2);
        dueAll(18, "open", each(-1, 17, x::open),
                -2, -1, -1, -1, -1, -1, 0, 0, 0, 0, -1, 1, -1, 2, 2, 2, 2, -1, -2);
        dueAll(23, "waiting", each(-1, 17, x::waiting),
                -2, -1, -1, -1, -1, -1, 3, 2, 2, 1, -1, 3, -1, 0, 0, 0, 0, -1, -2);
    }

    private static void copyByCopy() {
        CopyWhileRun x = tell(TALE);
        dueAll(19, "copy(0)", each(-1, 7, w -> x.copy(0, w)), -2, 1, 4, 2, 3, 2, 1, 9, -2);
        dueAll(19, "copy(1)", each(0, 6, w -> x.copy(1, w)), 1, 9, 1, 3, 3, 0, 11);
        dueAll(19, "copy(2)", each(0, 6, w -> x.copy(2, w)), 0, 11, 1, 0, 0, 0, 16);
        due(19, "copy(3, 0)", x.copy(3, 0), -2);
        due(19, "copy(-1, 0)", x.copy(-1, 0), -2);
        dueAll(20, "kept(0), torn", each(-1, 3, c -> x.kept(0, c)), -2, -1, -1, -1, -2);
        dueAll(20, "kept(1)", each(-1, 3, c -> x.kept(1, c)), -2, 44, 9, 44, -2);
        dueAll(20, "kept(2)", each(0, 2, c -> x.kept(2, c)), -1, -1, -1);
        due(20, "kept(3, 0)", x.kept(3, 0), -2);
        due(20, "kept(-1, 0)", x.kept(-1, 0), -2);
        dueAll(21, "saved(0), torn", each(-1, 3, c -> x.saved(0, c)), -2, 0, 1, 0, -2);
        dueAll(21, "saved(1)", each(0, 2, c -> x.saved(1, c)), 0, 0, 0);
        due(21, "saved(3, 0)", x.saved(3, 0), -2);
        dueAll(22, "order(0), torn", each(-1, 3, i -> x.order(0, i)), -2, 2, 1, -1, -1);
        dueAll(22, "order(1)", each(-1, 3, i -> x.order(1, i)), -2, 2, 1, 0, -1);
        due(22, "order(1, 2147483647)", x.order(1, 2147483647), -1);
        due(22, "order(3, 0)", x.order(3, 0), -2);
        x.does(4, 0, 0, 0);
        x.does(3, 0, 2, 7);
        dueAll(19, "an open copy", each(0, 6, w -> x.copy(3, w)), 1, 16, 0, 3, 3, 3, -1);
        dueAll(22, "of several the least first", each(0, 2, i -> x.order(3, i)), 0, 1, 2);
        dueAll(20, "kept, the values ahead", each(0, 2, c -> x.kept(3, c)), 1, 9, 44);
        x.does(7, 0, 0, 0);
        dueAll(20, "kept, whole", each(0, 2, c -> x.kept(3, c)), 1, 9, 44);
        x.undo();
        x.does(8, 0, 0, 0);
        dueAll(20, "kept, torn", each(0, 2, c -> x.kept(3, c)), -1, -1, -1);
        dueAll(21, "saved, torn", each(0, 2, c -> x.saved(3, c)), 1, 1, 1);
        CopyWhileRun y = tell(HEAD + "set 3 1;full;swap 3 1;set 3 5;finish;");
        dueAll(22, "a swap keeps the least first", each(0, 4, i -> y.order(0, i)), 1, 3, 0, 2, -1);
        dueAll(20, "as at its mark", each(0, 3, c -> y.kept(0, c)), 0, 0, 0, 1);
    }

    private static void laws() {
        String told = " odds 0;set 4 1;set 1 1;set 3 1;fill 0 1 2;swap 3 2;full;scan 2;scan 9;finish;";
        CopyWhileRun zero = tell("store cells 6 law 0" + told);
        dueAll(22, "law 0", each(0, 5, i -> zero.order(0, i)), 0, 1, 2, 3, 4, 5);
        CopyWhileRun one = tell("store cells 6 law 1" + told);
        dueAll(22, "law 1", each(0, 5, i -> one.order(0, i)), 5, 4, 3, 2, 1, 0);
        CopyWhileRun two = tell("store cells 6 law 2" + told);
        dueAll(22, "law 2", each(0, 5, i -> two.order(0, i)), 2, 3, 0, 1, 4, 5);
        CopyWhileRun three = tell("store cells 6 law 3" + told);
        dueAll(22, "law 3", each(0, 5, i -> three.order(0, i)), 0, 2, 4, 1, 3, 5);
        dueAll(23, "waiting by scans", each(6, 9, three::waiting), 6, 4, 0, -1);
        CopyWhileRun never = tell("store cells 3 law 2 odds 0;set 2 1;full;scan 1;");
        due(22, "changed by event 0 ahead of never", never.order(0, 0), 2);
        CopyWhileRun rest = tell("store cells 5 law 1 odds 0;set 2 1;full;scan 1;set 3 1;finish;");
        dueAll(22, "finish likewise", each(0, 5, i -> rest.order(0, i)), 4, 3, 2, 1, 0, -1);
        dueAll(21, "saved", each(0, 4, c -> rest.saved(0, c)), 0, 0, 0, 1, 0);
    }

    private static void costs() {
        CopyWhileRun x = tell(TALE);
        dueAll(24, "saves", each(-1, 16, x::saves), -2, 0, 0, 0, 0, 0, 0, 0, 1, 0, 0, 0, 0, 0, 0, 0, 0, -2);
        dueAll(25, "work", each(-1, 17, x::work),
                -2, 0, 0, 0, 0, 0, 0, 1, 1, 2, 2, 2, 5, 5, 5, 5, 5, 5, -2);
        dueAll(26, "wasted", each(-1, 17, x::wasted),
                -2, 0, 0, 0, 0, 0, 0, 0, 0, 0, 2, 2, 2, 2, 2, 2, 2, 2, -2);
        x.does(4, 0, 0, 0);
        x.does(3, 0, 2, 9);
        due(24, "cell 1 is 9 already", x.saves(17), 2);
        due(25, "work with acts", x.work(18), 7);
    }

    private static void chains() {
        CopyWhileRun x = tell(TALE);
        dueAll(27, "chain", each(-1, 17, x::chain),
                -2, 0, 0, 0, 0, 0, 0, 0, 0, 0, 0, 0, 1, 1, 1, 1, 1, 2, -2);
        dueAll(28, "linked(16)", each(-1, 2, i -> x.linked(16, i)), -2, 1, 2, -1);
        due(28, "linked(10, 0)", x.linked(10, 0), -1);
        due(28, "linked(17, 0)", x.linked(17, 0), -2);
        due(28, "linked(-1, 0)", x.linked(-1, 0), -2);
        dueAll(29, "replays", each(-1, 17, x::replays),
                -2, 0, 1, 2, 3, 4, 4, 4, 5, 6, 6, 6, 0, 0, 1, 2, 2, 2, -2);
        dueAll(30, "raised at 16", each(-1, 3, c -> x.raised(c, 16)), -2, 44, 9, 44, -2);
        dueAll(30, "raised at 10", each(0, 2, c -> x.raised(c, 10)), 0, 0, 0);
        due(30, "raised(0, 17)", x.raised(0, 17), -2);
        due(30, "raised(0, -1)", x.raised(0, -1), -2);
        dueAll(31, "restored at 16", each(-1, 3, c -> x.restored(c, 16)), -2, 1, 9, 44, -2);
        dueAll(31, "restored at 10", each(0, 2, c -> x.restored(c, 10)), 44, 9, 44);
        due(31, "restored(0, 17)", x.restored(0, 17), -2);
        dueAll(32, "doubled", each(-1, 17, x::doubled),
                -2, 0, 0, 0, 0, 0, 0, 0, 0, 0, 0, 0, 0, 0, 0, 0, 0, 0, -2);
        dueAll(33, "source at 16", each(-1, 3, c -> x.source(c, 16)), -2, 1, 1, 1, -2);
        due(33, "source(0, 10)", x.source(0, 10), -1);
        due(33, "source(0, 17)", x.source(0, 17), -2);
    }

    /** A full one with two parts, a torn one among them, and another full one. */
    private static void longChain() {
        CopyWhileRun x = tell(HEAD + "set 0 1;full;finish;set 1 2;part;set 1 3;finish;part;tear;set 2 4;"
                + "part;finish;add 0 1;full;finish;");
        // dirty at 4: 1; at 7 (from mark 4): 1; at 10: 1, 2; so copy 3 keeps both
        dueAll(27, "chain", each(0, 15, x::chain), 0, 0, 0, 1, 1, 1, 1, 2, 2, 2, 2, 2, 3, 3, 3, 1);
        dueAll(28, "linked(12)", each(0, 3, i -> x.linked(12, i)), 0, 1, 3, -1);
        dueAll(28, "linked(15)", each(0, 1, i -> x.linked(15, i)), 4, -1);
        dueAll(33, "source at 12", each(0, 3, c -> x.source(c, 12)), 0, 3, 3, 0);
        dueAll(33, "source at 7", each(0, 3, c -> x.source(c, 7)), 0, 1, 0, 0);
        dueAll(30, "raised at 7", each(0, 3, c -> x.raised(c, 7)), 1, 2, 0, 0);
        dueAll(30, "raised at 12", each(0, 3, c -> x.raised(c, 12)), 1, 3, 4, 0);
        dueAll(31, "restored at 7", each(0, 3, c -> x.restored(c, 7)), 1, 3, 0, 0);
        dueAll(31, "restored at 13", each(0, 3, c -> x.restored(c, 13)), 2, 3, 4, 0);
        dueAll(32, "doubled", each(0, 15, x::doubled), 0, 0, 0, 0, 0, 0, 0, 1, 1, 1, 1, 1, 3, 3, 3, 0);
        dueAll(29, "replays", each(0, 15, x::replays), 0, 1, 1, 0, 1, 1, 2, 1, 1, 1, 2, 2, 0, 1, 1, 0);
        dueAll(34, "age", each(0, 15, x::age), 0, 1, 2, 2, 3, 4, 5, 3, 4, 5, 6, 7, 2, 3, 4, 2);
        due(35, "worst()", x.worst(), 11);
    }

    private static void ages() {
        CopyWhileRun x = tell(TALE);
        dueAll(34, "age", each(-1, 17, x::age),
                -2, 0, 1, 2, 3, 4, 5, 6, 7, 8, 9, 10, 2, 3, 4, 5, 6, 5, -2);
        due(35, "worst()", x.worst(), 10);
        due(35, "worst(), nothing done", tell(HEAD).worst(), 0);
        due(35, "worst(), the first of several", tell(HEAD + "tear;full;finish;").worst(), 2);
        due(35, "worst(), one event", tell(HEAD + "tear;").worst(), 1);
        // age is 0, 1, 2, then from mark 1 on 2, 3, then from mark 3 on 2
        due(35, "worst(), between copies", tell(HEAD + "tear;full;finish;full;finish;").worst(), 4);
        due(35, "worst(), no store", new CopyWhileRun().worst(), -2);
        for (int i = 0; i < 6; i++) {
            x.does(0, 0, 1, 0);
        }
        due(35, "worst() with acts", x.worst(), 22);
    }

    private static void ticks() {
        CopyWhileRun x = tell(TALE);
        dueAll(36, "differ(16, .)", each(-1, 17, t -> x.differ(16, t)),
                -2, 3, 3, 3, 3, 2, 2, 2, 2, 1, 1, 1, 1, 1, 1, 0, 0, 0, -2);
        due(36, "differ(17, 0)", x.differ(17, 0), -2);
        due(36, "differ(-1, 0)", x.differ(-1, 0), -2);
        dueAll(37, "same", each(-1, 17, x::same),
                -2, 0, 1, 2, 3, 4, 4, 4, 4, 8, 8, 8, 8, 8, 8, 14, 14, 14, -2);
        dueAll(36, "differ(0, .)", each(0, 4, t -> x.differ(0, t)), 0, 1, 1, 1, 3);
        dueAll(36, "differ(1, .)", each(0, 4, t -> x.differ(1, t)), 1, 0, 1, 2, 3);
        dueAll(36, "differ(., 1)", each(0, 4, t -> x.differ(t, 1)), 1, 0, 1, 2, 3);
        due(37, "same, gone back", tell(HEAD + "set 0 1;set 0 0;").same(2), 0);
        due(37, "same, two cells", tell(HEAD + "set 0 1;swap 0 1;swap 1 0;").same(3), 1);
    }

    private static void paces() {
        CopyWhileRun x = tell(TALE);
        dueAll(38, "pace", each(0, 21, x::pace),
                -2, 10, 8, 8, 6, 6, 6, 6, 3, 3, 3, 3, 3, 3, 3, 3, 3, 3, 3, 3, 3, -2);
        due(39, "best()", x.best(), 7);
        CopyWhileRun none = tell(HEAD + "full;");
        dueAll(38, "pace without commands", each(1, 20, none::pace),
                0, 0, 0, 0, 0, 0, 0, 0, 0, 0, 0, 0, 0, 0, 0, 0, 0, 0, 0, 0);
        due(39, "best() without commands", none.best(), 1);
        due(39, "best(), no store", new CopyWhileRun().best(), -2);
        due(38, "pace(1), no store", new CopyWhileRun().pace(1), -2);
        CopyWhileRun one = tell(HEAD + "set 0 1;");
        due(38, "pace(1) of one", one.pace(1), 4);
        one.does(0, 1, 1, 0);
        due(38, "pace(1) of two, one an act", one.pace(1), 5);
        due(38, "pace(2) of two", one.pace(2), 4);
        // 5 and twice 1, or 4 and twice 2
        due(39, "best()", one.best(), 1);
        // 21 commands, each of all cells: 20 makes one part, and leaves one command to replay
        StringBuilder many = new StringBuilder("store cells 32 law 0 odds 0;");
        for (int i = 1; i <= 21; i++) {
            many.append("fill 0 31 ").append(i).append(";");
        }
        CopyWhileRun wide = tell(many.toString());
        dueAll(38, "pace of wide ones", each(17, 20, wide::pace), 64, 64, 64, 64);
        due(39, "best(), the last", wide.best(), 20);
    }

    private static void leftOut() {
        CopyWhileRun x = tell(TALE);
        due(40, "blame()", x.blame(), -1);
        due(41, "idle()", x.idle(), 0);
        CopyWhileRun y = tell(HEAD + "set 0 1;full;fill 0 1 2;set 2 3;set 3 3;add 1 0;");
        // now none is 0; without the fill 1 is 0, without event 3 2 is, without event 4 3 is
        due(40, "blame(), the first of several", y.blame(), 2);
        due(41, "idle()", y.idle(), 0);
        CopyWhileRun z = tell(HEAD + "full;set 0 1;fill 1 2 2;");
        due(40, "blame(), the most", z.blame(), 2);
        due(41, "idle(), none", z.idle(), -1);
        z.does(3, 0, 2, 5);
        due(40, "blame() with acts", z.blame(), -1);
        due(41, "idle() with acts", z.idle(), 1);
        due(41, "idle(), acts are not told", acted().idle(), -1);
        due(40, "blame(), acts are not told", acted().blame(), -1);
        CopyWhileRun first = tell(HEAD + "set 0 1;");
        due(40, "blame(), the first event", first.blame(), 0);
        due(41, "idle(), none", first.idle(), -1);
        due(40, "blame(), no store", new CopyWhileRun().blame(), -2);
        due(41, "idle(), no store", new CopyWhileRun().idle(), -2);
    }

    private static CopyWhileRun acted() {
        CopyWhileRun x = tell(HEAD + "full;");
        x.does(0, 0, 1, 0);
        x.does(0, 0, 1, 0);
        return x;
    }

    private static void see(CopyWhileRun x, int slot, int width, long... numbers) {
        x.row(slot, width, numbers.length);
        for (int i = 0; i < numbers.length; i++) {
            x.write(slot, i, numbers[i]);
        }
    }

    private static void seen() {
        CopyWhileRun x = tell(TALE);
        due(42, "may(-1)", x.may(-1), -2);
        due(42, "may(4)", x.may(4), -2);
        due(43, "which(4)", x.which(4), -2);
        due(44, "plain(4)", x.plain(4), -2);
        due(42, "may(0) of nothing", x.may(0), -6);
        due(43, "which(0) of nothing", x.which(0), -6);
        due(44, "plain(0) of nothing", x.plain(0), -6);
        x.row(0, 0, 0);
        due(42, "may(0), nothing seen", x.may(0), 16);
        due(43, "which(0), nothing seen", x.which(0), 0);
        due(44, "plain(0), nothing seen", x.plain(0), 1);
        see(x, 1, 1, 16, 1, 44);
        due(42, "9 was not set", x.may(1), 1);
        due(43, "9 was not set", x.which(1), 7);
        due(44, "9 was not set", x.plain(1), 0);
        see(x, 1, 3, 1, 0, 0);
        due(43, "200 was not set", x.which(1), 0);
        see(x, 1, 1, 2, 0, 200, 3, 1, 200);
        due(42, "100 was not added", x.may(1), 1);
        due(43, "100 was not added", x.which(1), 1);
        see(x, 1, 1, 2, 0, 200, 3, 1, 44);
        due(42, "none", x.may(1), 0);
        due(43, "none", x.which(1), -1);
        due(44, "none", x.plain(1), 0);
        see(x, 1, 0, 16, 0, 1, 0, 2, 0);
        due(42, "as it was", x.may(1), 15);
        due(44, "as it was", x.plain(1), 1);
        long[][] wrongOnes = {{17, 0, 1}, {-1, 0, 1}, {0, 3, 0}, {0, -1, 0}, {0, 0, 256}, {0, 0, -1},
            {0, 0}, {0, 0, 0, 0}, {0, 0, 0, 0, 3, 0}, {4294967296L, 0, 0}};
        for (long[] one : wrongOnes) {
            see(x, 2, 3, one);
            due(42, "may of wrong ones", x.may(2), -2);
            due(43, "which of wrong ones", x.which(2), -2);
            due(44, "plain of wrong ones", x.plain(2), -2);
        }
        see(x, 2, 2, 4294967296L, 0, 0);
        due(62, "cut to four bytes", x.plain(2), 1);
        see(x, 2, 1, 65536, 65537 * 65536L, 65536);
        due(62, "cut to two bytes", x.plain(2), 1);
        see(x, 2, 0, 256, -256, 512);
        due(62, "cut to one byte", x.plain(2), 1);
        see(x, 2, 0, 1, 0, 200);
        due(62, "a byte above 127 is below 0", x.plain(2), -2);
        x.does(0, 2, 5, 0);
        see(x, 2, 2, 17, 2, 5);
        due(44, "a tick behind an act", x.plain(2), 1);
        due(42, "acts are not told", x.may(2), 16);
        see(x, 2, 2, 17, 2, 44);
        due(42, "acts are not left out", x.may(2), 0);
    }

    private static void lawsCompared() {
        CopyWhileRun x = tell(TALE);
        dueAll(45, "by", each(-1, 4, x::by), -2, 1, 1, 1, 1, -2);
        due(46, "law(), the least of several", x.law(), 0);
        CopyWhileRun y = tell("store cells 6 law 0 odds 0;set 4 1;full;scan 3;fill 3 5 9;tear;");
        // 0 keeps 0, 1, 2: 3; 1 keeps 5, 4, 3: 0; 2 keeps 4, 0, 1: 2; 3 keeps 0, 2, 4: 2
        dueAll(45, "by", each(0, 3, y::by), 3, 0, 2, 2);
        due(46, "law()", y.law(), 1);
        CopyWhileRun z = tell("store cells 6 law 1 odds 0;set 2 1;full;scan 3;set 0 1;set 2 2;set 4 3;finish;");
        // 0 keeps 0, 1, 2: 1; 1 keeps 5, 4, 3: 2; 2 keeps 2, 0, 1: 1; 3 keeps 0, 2, 4: 0
        dueAll(45, "by", each(0, 3, z::by), 1, 2, 1, 0);
        due(46, "law()", z.law(), 3);
        due(45, "by, no store", new CopyWhileRun().by(0), -2);
        due(46, "law, no store", new CopyWhileRun().law(), -2);
    }

    private static void shares() {
        CopyWhileRun x = tell(TALE);
        due(47, "worth(0)", x.worth(0), 2);
        due(47, "worth(48), no commands", x.worth(48), 2);
        due(47, "worth(128)", x.worth(128), 3);
        due(47, "worth(5)", x.worth(5), 3);
        due(47, "worth(3)", x.worth(3), 2);
        due(47, "worth(255)", x.worth(255), 3);
        due(47, "worth(256)", x.worth(256), -2);
        due(47, "worth(-1)", x.worth(-1), -2);
        due(47, "worth, no store", new CopyWhileRun().worth(0), -2);
        dueAll(48, "share, above", each(-1, 8, e -> x.share(e, 0)),
                -1000, 1, 1, 2, 23, -1000, -1000, 0, 23, -1000);
        dueAll(48, "share, below", each(-1, 8, e -> x.share(e, 1)),
                -1000, 20, 20, 15, 60, -1000, -1000, 1, 60, -1000);
        due(48, "share(0, 2)", x.share(0, 2), -1000);
        due(48, "share(0, -1)", x.share(0, -1), -1000);
        due(48, "share(12, 0), a command behind", x.share(12, 0), -1000);
        CopyWhileRun y = tell(HEAD + "set 0 1;set 0 0;");
        // the second one takes back what the first one is worth, in one order of two
        dueAll(48, "shares of two", new int[] {y.share(0, 0), y.share(0, 1), y.share(1, 0), y.share(1, 1)},
                1, 2, -1, 2);
        due(47, "worth(1)", y.worth(1), 1);
        due(47, "worth(3)", y.worth(3), 0);
        y.does(0, 0, 7, 0);
        dueAll(48, "an act behind makes them worth nothing", new int[] {y.share(0, 0), y.share(0, 1)}, 0, 1);
        due(48, "an act is not told", y.share(2, 0), -1000);
        due(47, "an act's bit does not count", y.worth(0), 1);
        CopyWhileRun eight = tell(HEAD + "set 0 1;".repeat(8));
        dueAll(48, "of eight", new int[] {eight.share(7, 0), eight.share(7, 1)}, 1, 8);
        CopyWhileRun nine = tell(HEAD + "set 0 1;".repeat(8) + "set 1 1;");
        dueAll(48, "the ninth is none of them", new int[] {nine.share(8, 0), nine.share(8, 1)}, -1000, -1000);
        dueAll(48, "of eight, a ninth behind", new int[] {nine.share(0, 0), nine.share(0, 1)}, 1, 8);
        due(47, "the ninth stays", nine.worth(0), 1);
        CopyWhileRun late = tell(HEAD + "full;tear;set 0 1;set 1 1;");
        dueAll(48, "by events, not by commands", new int[] {late.share(2, 0), late.share(2, 1), late.worth(3),
            late.worth(4), late.worth(12)}, 1, 1, 0, 1, 2);
        CopyWhileRun whole = tell(HEAD + "fill 0 2 1;");
        dueAll(48, "of one alone", new int[] {whole.share(0, 0), whole.share(0, 1)}, 3, 1);
    }

    private static void games() {
        CopyWhileRun x = tell(TALE);
        dueAll(50, "gets(9, 10)", each(0, 3, p -> x.gets(9, 10, p & 1, p >> 1)), 3, -3, 3, -3);
        dueAll(50, "gets(10, 9)", each(0, 3, p -> x.gets(10, 9, p & 1, p >> 1)), 3, 0, 0, -3);
        due(49, "rests(9, 10)", x.rests(9, 10), 1);
        CopyWhileRun y = tell("store cells 8 law 0 odds 0;full;tear;finish;");
        due(49, "rests(1, 2)", y.rests(1, 2), 2);
        due(49, "rests(2, 1)", y.rests(2, 1), 4);
        due(50, "gets(1, 2, 1, 0)", y.gets(1, 2, 1, 0), 5);
        due(50, "gets(2, 1, 0, 1)", y.gets(2, 1, 0, 1), 8);
        due(49, "rests, two tear", tell("store cells 8 law 0 odds 0;full;tear;tear;finish;").rests(1, 2), 9);
        due(49, "rests, as much by both", tell("store cells 3 law 0 odds 0;full;tear;finish;").rests(1, 2), 3);
        due(49, "rests, the other way", tell("store cells 3 law 0 odds 0;full;tear;finish;").rests(2, 1), 5);
        due(49, "rests(0, 0)", y.rests(0, 0), -2);
        due(49, "rests(0, 3)", y.rests(0, 3), -2);
        due(49, "rests(-1, 0)", y.rests(-1, 0), -2);
        due(50, "gets(0, 0, 0, 0)", y.gets(0, 0, 0, 0), -1000);
        due(50, "gets(0, 3, 0, 0)", y.gets(0, 3, 0, 0), -1000);
        due(50, "gets(3, 0, 0, 0)", y.gets(3, 0, 0, 0), -1000);
        due(50, "gets(0, 1, 2, 0)", y.gets(0, 1, 2, 0), -1000);
        due(50, "gets(0, 1, -1, 0)", y.gets(0, 1, -1, 0), -1000);
        due(50, "gets(0, 1, 0, 2)", y.gets(0, 1, 0, 2), -1000);
        due(50, "gets(0, 1, 0, -1)", y.gets(0, 1, 0, -1), -1000);
        y.does(4, 0, 0, 0);
        due(49, "an act is not told", y.rests(0, 3), -2);
        y.does(7, 0, 0, 0);
        due(50, "but acts are there", y.gets(0, 1, 0, 0), 8);
    }

    private static void chances() {
        CopyWhileRun x = tell(TALE);
        long[][] rows = {{0, 0, 1, 1}, {0, 1, 1, 1}, {0, 2, 1, 1}, {0, 3, 3, 5}, {1, 3, 0, 1}, {1, 6, 4, 25},
            {0, 6, 83, 125}};
        for (long[] one : rows) {
            due(51, "chance above", x.chance((int) one[0], (int) one[1], 0), one[2]);
            due(51, "chance below", x.chance((int) one[0], (int) one[1], 1), one[3]);
        }
        due(52, "mean(3, 0)", x.mean(3, 0), 3);
        due(52, "mean(3, 1)", x.mean(3, 1), 5);
        due(52, "mean(6, 0)", x.mean(6, 0), 123);
        due(52, "mean(6, 1)", x.mean(6, 1), 125);
        due(52, "mean(0, 0)", x.mean(0, 0), 1);
        due(51, "chance(3, 0, 0)", x.chance(3, 0, 0), -2);
        due(51, "chance(-1, 0, 0)", x.chance(-1, 0, 0), -2);
        due(51, "chance(0, 7, 0)", x.chance(0, 7, 0), -2);
        due(51, "chance(0, -1, 0)", x.chance(0, -1, 0), -2);
        due(51, "chance(0, 0, 2)", x.chance(0, 0, 2), -2);
        due(51, "chance(0, 0, -1)", x.chance(0, 0, -1), -2);
        due(52, "mean(7, 0)", x.mean(7, 0), -2);
        due(52, "mean(-1, 0)", x.mean(-1, 0), -2);
        due(52, "mean(0, 2)", x.mean(0, 2), -2);
        due(52, "mean, no store", new CopyWhileRun().mean(0, 0), -2);
        CopyWhileRun y = tell("store cells 2 law 0 odds 3;set 0 1;");
        due(51, "not so many events", y.chance(0, 2, 0), -2);
        due(52, "not so many events", y.mean(2, 0), -2);
        y.does(3, 0, 1, 5);
        due(51, "an act, too, above", y.chance(0, 2, 0), 91);
        due(51, "an act, too, below", y.chance(0, 2, 1), 100);
        due(52, "an act, too, above", y.mean(2, 0), 161);
        due(52, "an act, too, below", y.mean(2, 1), 100);
    }

    private static void acts() {
        CopyWhileRun x = tell(HEAD);
        int[][] none = {{-1, 0, 0, 0}, {9, 0, 0, 0}, {0, 4, 0, 0}, {0, -1, 0, 0}, {0, 0, 256, 0}, {0, 0, -1, 0},
            {0, 0, 0, 1}, {1, 4, 0, 0}, {1, 0, 256, 0}, {1, 0, 0, 1}, {2, 0, 0, 0}, {2, 0, 4, 0}, {2, 4, 0, 0},
            {2, 0, 1, 1}, {3, 1, 0, 0}, {3, 0, 4, 0}, {3, 0, 0, 256}, {3, -1, 0, 0}, {3, 0, 3, -1},
            {4, 1, 0, 0}, {4, 0, 1, 0}, {4, 0, 0, 1}, {5, 1, 0, 0}, {6, 0, 0, 0}, {6, 33, 0, 0}, {6, 1, 1, 0},
            {6, 1, 0, 1}, {7, 1, 0, 0}, {8, 0, 0, 1}};
        for (int[] one : none) {
            due(53, "does of none such", x.does(one[0], one[1], one[2], one[3]), -2);
        }
        due(53, "none has come", x.count(4), 0);
        due(53, "does(8, ..)", x.does(8, 0, 0, 0), 2);
        due(53, "does(5, ..)", x.does(5, 0, 0, 0), 3);
        due(53, "does(4, ..)", x.does(4, 0, 0, 0), 0);
        due(53, "does(4, ..) again", x.does(4, 0, 0, 0), 1);
        due(53, "does(0, 3, 255, 0)", x.does(0, 3, 255, 0), 0);
        due(53, "does(1, 3, 255, 0)", x.does(1, 3, 255, 0), 0);
        due(53, "does(2, 3, 0, 0)", x.does(2, 3, 0, 0), 0);
        due(53, "does(3, 3, 3, 255)", x.does(3, 3, 3, 255), 0);
        due(53, "does(6, 32, 0, 0)", x.does(6, 32, 0, 0), 0);
        due(53, "does(7, ..)", x.does(7, 0, 0, 0), 0);
        due(53, "acts are events", x.count(4), 10);
        due(53, "they are not told", x.count(3), 0);
        due(53, "value(0, 10)", x.value(0, 10), 254);
        due(54, "undo()", x.undo(), 9);
        due(54, "the copy is open again", x.open(9), 0);
        due(54, "there is no tick 10", x.open(10), -2);
        for (int i = 0; i < 11; i++) {
            x.does(0, 0, i, 0);
        }
        due(53, "twenty acts", x.count(4), 20);
        due(53, "one more", x.does(0, 0, 0, 0), -5);
        due(53, "one more that is none", x.does(0, 4, 0, 0), -2);
        due(55, "anew()", x.anew(), 20);
        due(55, "anew() again", x.anew(), 0);
        due(54, "undo() of none", x.undo(), -5);
        due(55, "sum(0)", x.sum(0), 0);
        due(55, "sum(1)", x.sum(1), -2);
        due(53, "does, no store", new CopyWhileRun().does(4, 0, 0, 0), -2);
        due(55, "anew, no store", new CopyWhileRun().anew(), -2);
        CopyWhileRun most = tell(HEAD + "full;tear;".repeat(20));
        for (int i = 0; i < 20; i++) {
            most.does(4 + i % 2 * 4, 0, 0, 0);
        }
        due(53, "sixty events", most.copies(60), 30);
        due(53, "copy(29, 6)", most.copy(29, 6), 60);
    }

    private static void draws() {
        CopyWhileRun x = tell(TALE);
        dueAll(56, "left out", each(0, 3, s -> x.drawn(s, 0)), 6, 6, 5, 9);
        dueAll(56, "dirty", each(0, 3, s -> x.drawn(s, 1)), 1, 0, 1, 2);
        due(56, "drawn(2000000000, 0)", x.drawn(2000000000, 0), 6);
        due(56, "drawn(2000000001, 0)", x.drawn(2000000001, 0), -2);
        due(56, "drawn(-1, 0)", x.drawn(-1, 0), -2);
        due(56, "drawn(0, 2)", x.drawn(0, 2), -2);
        due(56, "drawn(0, -1)", x.drawn(0, -1), -2);
        due(56, "drawn, no store", new CopyWhileRun().drawn(0, 0), -2);
        dueAll(57, "luck(0, ., 0)", each(0, 4, n -> x.luck(0, n, 0)), -2, 1, 1, 1, 2);
        dueAll(57, "luck(1, ., 1)", each(1, 3, n -> x.luck(1, n, 1)), 0, 1, 2);
        due(57, "luck(0, 21, 0)", x.luck(0, 21, 0), -2);
        due(57, "luck(0, 1, 3)", x.luck(0, 1, 3), -2);
        due(57, "luck(0, 1, -1)", x.luck(0, 1, -1), -2);
        due(57, "luck(-1, 1, 0)", x.luck(-1, 1, 0), -2);
        due(57, "luck(2000000001, 1, 0)", x.luck(2000000001, 1, 0), -2);
        due(57, "luck, no store", new CopyWhileRun().luck(0, 1, 0), -2);
        CopyWhileRun sure = tell("store cells 2 law 0 odds 0;set 0 1;");
        due(57, "odds 0", sure.luck(2000000000, 20, 0), 20);
        due(57, "odds 0, never changed", sure.luck(2000000000, 20, 1), 0);
        CopyWhileRun never = tell("store cells 2 law 0 odds 10;set 0 1;");
        due(57, "odds 10", never.luck(0, 20, 0), 0);
        never.does(0, 0, 1, 0);
        due(56, "odds 10, an act", never.drawn(5, 0), 2);
    }

    private static void counts() {
        CopyWhileRun x = tell(TALE);
        x.does(4, 0, 0, 0);
        x.feed(0, 0, 0, 0, 0);
        x.row(3, 0, 0);
        x.row(1, 3, 60);
        dueAll(58, "count", each(-1, 8, x::count), -1, 3, 1, 4, 16, 1, 17, 20, 2, -1);
        x.row(1, 3, -1);
        x.row(1, 0, 1);
        due(58, "count(7)", x.count(7), 2);
    }

    private static void images() {
        CopyWhileRun x = new CopyWhileRun();
        dueAll(59, "image", each(-1, 3, x::image), -2, 0, 0, 0, -2);
        feedText(x, TALE);
        x.store();
        x.does(0, 1, 77, 0);
        due(59, "image(1)", x.image(1), 0);
        x.does(0, 1, 78, 0);
        x.row(0, 0, 3);
        x.write(0, 0, 1);
        feedText(x, HEAD);
        due(60, "back(1)", x.back(1), 0);
        due(60, "the tape stays", x.count(6), 27);
        due(60, "slots stay", x.count(7), 1);
        due(60, "acts", x.count(4), 1);
        due(60, "value(1, 17)", x.value(1, 17), 77);
        due(60, "sum(18)", x.sum(18), -2);
        due(60, "store()", x.store(), 1);
        due(60, "fault(0)", x.fault(0), 0);
        x.does(4, 0, 0, 0);
        due(59, "image(2)", x.image(2), 0);
        due(60, "back(1)", x.back(1), 0);
        dueAll(60, "count", each(0, 5, x::count), 3, 1, 4, 16, 1, 17);
        due(60, "undo()", x.undo(), 0);
        due(60, "back(1) again", x.back(1), 0);
        due(60, "acts of an image stay", x.count(4), 1);
        due(60, "back(2)", x.back(2), 0);
        dueAll(60, "count", each(0, 5, x::count), 4, 0, 5, 0, 1, 1);
        due(60, "back(0), no store was there", x.back(0), 0);
        due(60, "sum(0)", x.sum(0), -2);
        due(60, "back(3)", x.back(3), -2);
        due(60, "back(-1)", x.back(-1), -2);
        CopyWhileRun y = tell(HEAD);
        due(60, "back(0) of nothing", y.back(0), -6);
        due(60, "the store stays", y.count(5), 1);
    }

    private static void rows() {
        CopyWhileRun x = tell(TALE);
        due(61, "row(-1, 0, 1)", x.row(-1, 0, 1), -2);
        due(61, "row(4, 0, 1)", x.row(4, 0, 1), -2);
        due(61, "row(0, -1, 1)", x.row(0, -1, 1), -2);
        due(61, "row(0, 4, 1)", x.row(0, 4, 1), -2);
        due(61, "row(0, 0, 61)", x.row(0, 0, 61), -2);
        due(61, "row(0, 0, -1)", x.row(0, 0, -1), -3);
        due(61, "row(0, 4, -1)", x.row(0, 4, -1), -2);
        due(61, "row(4, 0, -1)", x.row(4, 0, -1), -2);
        due(61, "row(0, 0, least)", x.row(0, 0, Integer.MIN_VALUE), -3);
        due(61, "none has come", x.count(7), 0);
        due(61, "row(0, 3, 60)", x.row(0, 3, 60), 0);
        due(62, "write(0, 59, 1)", x.write(0, 59, 1), 0);
        due(62, "write(0, 60, 1)", x.write(0, 60, 1), -7);
        due(62, "write(0, -1, 1)", x.write(0, -1, 1), -7);
        due(62, "write(1, 0, 1)", x.write(1, 0, 1), -6);
        due(62, "write(1, -1, 1)", x.write(1, -1, 1), -6);
        due(62, "write(4, 0, 1)", x.write(4, 0, 1), -2);
        due(62, "write(-1, 0, 1)", x.write(-1, 0, 1), -2);
        due(44, "one is not 0", x.plain(0), 0);
        due(61, "row(0, 3, -1)", x.row(0, 3, -1), -3);
        due(61, "the slot stays", x.plain(0), 0);
        due(61, "row(0, 3, 60)", x.row(0, 3, 60), 0);
        due(61, "all are 0", x.plain(0), 1);
        due(61, "row(0, 1, 2)", x.row(0, 1, 2), 0);
        due(62, "write(0, 2, 1)", x.write(0, 2, 1), -7);
        due(61, "row(0, 1, 3)", x.row(0, 1, 3), 0);
        due(62, "write(0, 2, 5)", x.write(0, 2, 5), 0);
        due(62, "it is there", x.plain(0), 0);
    }

    private static void pastes() {
        CopyWhileRun x = tell(TALE);
        see(x, 0, 1, 1, 0, 200, 8, 1, 9);
        x.row(1, 1, 3);
        x.row(2, 2, 3);
        due(63, "paste(4, ..)", x.paste(4, 0, 0, 0, 1), -2);
        due(63, "paste(-1, ..)", x.paste(-1, 0, 0, 0, 1), -2);
        due(63, "paste to 4", x.paste(0, 0, 4, 0, 1), -2);
        due(63, "paste to -1", x.paste(0, 0, -1, 0, 1), -2);
        due(63, "paste(3, ..), nothing", x.paste(3, 0, 0, 0, 1), -6);
        due(63, "paste to 3, nothing", x.paste(0, -1, 3, 0, 1), -6);
        due(63, "paste of another width", x.paste(0, -1, 2, 0, 1), -8);
        due(63, "paste(0, -1, ..)", x.paste(0, -1, 1, 0, 1), -7);
        due(63, "paste to -1", x.paste(0, 0, 1, -1, 1), -7);
        due(63, "paste of -1", x.paste(0, 0, 1, 0, -1), -7);
        due(63, "paste of 4", x.paste(0, 0, 1, 0, 4), -7);
        due(63, "paste from 4 of 3", x.paste(0, 4, 1, 0, 3), -7);
        due(63, "paste to 1 of 3", x.paste(0, 0, 1, 1, 3), -7);
        due(63, "paste of most", x.paste(0, 1, 1, 0, Integer.MAX_VALUE), -7);
        due(63, "paste from most", x.paste(0, Integer.MAX_VALUE, 1, 0, 1), -7);
        due(63, "paste to most", x.paste(0, 0, 1, Integer.MAX_VALUE, 1), -7);
        due(63, "nothing has happened", x.plain(1), 1);
        due(63, "paste of none at the ends", x.paste(0, 6, 1, 3, 0), 0);
        due(63, "paste of none behind the end", x.paste(0, 7, 1, 0, 0), -7);
        due(63, "paste(0, 3, 1, 0, 3)", x.paste(0, 3, 1, 0, 3), 0);
        due(63, "it is there", x.plain(1), 1);
        x.write(1, 2, 44);
        due(63, "without 9", x.which(1), 7);
        due(63, "the first one stays", x.plain(0), 1);
        see(x, 0, 1, 4, 2, 1, 0, 0, 0);
        // 4 2 1 0 0 0 becomes 4 2 4 2 1 0, which is no row of what can be seen; then 4 2 1 0 1 0
        due(63, "onto its own, behind", x.paste(0, 0, 0, 2, 3), 0);
        due(63, "a 4 in cell 2 at tick 4", x.plain(0), 0);
        due(63, "onto its own, ahead", x.paste(0, 3, 0, 0, 3), 0);
        // 2 1 0 2 1 0: at tick 2 cell 1 is 0
        due(63, "as they were", x.plain(0), 1);
    }
}
