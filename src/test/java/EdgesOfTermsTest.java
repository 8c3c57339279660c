/** The sentences of the document's section "Terms" that name an edge, one after another. */
public final class EdgesOfTermsTest {
    private static final int TERMS = Sentences.TERMS;
    private static final String HEAD = "store cells 4 law 0 odds 5;";
    private static final String FORTY = HEAD + "tear;".repeat(40);
    private static Sentences s;

    public static void main(String[] args) throws Exception {
        s = new Sentences(TERMS, TERMS);
        lines();
        numbers();
        events();
        tokens();
        faults();
        slots();
        commands();
        changedAndDirty();
        copiesBegun();
        refusals();
        savedCells();
        scans();
        ends();
        chains();
        tree();
        seen();
        worths();
        game();
        chance();
        draws();
        s.end();
    }

    private static void lines() {
        s.of(TERMS, "STORE: {LINE ;}");
        s.due("no LINE", Sentences.reads(""), 0);
        s.due("one LINE", Sentences.reads("store cells 2 law 0 odds 0;"), 1);
        s.faulty("store cells 2 law 0 odds 0", 1, 26);
        s.faulty(";", 1, 0);
        s.faulty(HEAD + ";", 1, 27);
        s.faulty(HEAD + "full", 1, 31);
        s.faulty(HEAD + "full tear;", 1, 32);
        s.of(TERMS, "LINE: store cells N law N odds N | set C V");
        s.due("each kind", Sentences.reads(HEAD + "set 0 1;add 0 1;swap 0 1;fill 0 1 1;full;part;scan 1;finish;tear;"),
                10);
        s.faulty("store 4 law 0 odds 5;", 1, 6);
        s.faulty("store cells law 0 odds 5;", 1, 12);
        s.faulty("store cells 4 odds 5;", 1, 14);
        s.faulty("store cells 4 law odds 5;", 1, 18);
        s.faulty("store cells 4 law 0;", 1, 19);
        s.faulty("store cells 4 law 0 odds;", 1, 24);
        s.faulty("store cells 4 law 0 odds 5 5;", 1, 27);
        for (String word : new String[] {"set", "add"}) {
            s.faulty(HEAD + word + ";", 1, 30);
            s.faulty(HEAD + word + " 1;", 1, 32);
            s.faulty(HEAD + word + " 1 1 1;", 1, 35);
        }
        s.faulty(HEAD + "swap 1;", 1, 33);
        s.faulty(HEAD + "swap 1 2 3;", 1, 36);
        s.faulty(HEAD + "fill 1 2;", 1, 35);
        s.faulty(HEAD + "fill 1 2 3 4;", 1, 38);
        s.faulty(HEAD + "full 1;", 1, 32);
        s.faulty(HEAD + "part 1;", 1, 32);
        s.faulty(HEAD + "scan;", 1, 31);
        s.faulty(HEAD + "scan 1 1;", 1, 34);
        s.faulty(HEAD + "finish 1;", 1, 34);
        s.faulty(HEAD + "tear 1;", 1, 32);
        s.of(TERMS, "store is the first LINE and no other");
        s.faulty("full;", 1, 0);
        s.faulty("cells 4;", 1, 0);
        s.faulty(HEAD + HEAD, 1, 27);
        s.faulty(HEAD + "tear;" + HEAD, 1, 32);
        s.faulty(FORTY + HEAD, 1, 227);
    }

    private static String head(String cells, String law, String odds) {
        return "store cells " + cells + " law " + law + " odds " + odds + ";";
    }

    private static void numbers() {
        s.of(TERMS, "cells 2 .. 32, law 0 .. 3, odds 0 .. 10");
        s.due("the least", Sentences.reads(head("2", "0", "0")), 1);
        s.due("the most", Sentences.reads(head("32", "3", "10")), 1);
        s.faulty(head("0", "0", "0"), 2, 12);
        s.faulty(head("1", "0", "0"), 2, 12);
        s.faulty(head("33", "0", "0"), 2, 12);
        s.faulty(head("4294967298", "0", "0"), 2, 12);
        s.faulty(head("2", "4", "0"), 2, 18);
        s.faulty(head("32", "4", "0"), 2, 19);
        s.faulty(head("2", "0", "11"), 2, 25);
        s.faulty(head("2", "0", "18446744073709551616"), 2, 25);
        s.of(TERMS, "C, D 0 .. cells less 1 (swap: unlike");
        s.due("the least", Sentences.reads(HEAD + "set 0 1;add 0 1;swap 0 1;fill 0 0 1;"), 5);
        s.due("the greatest", Sentences.reads(HEAD + "set 3 1;add 3 1;swap 3 2;swap 2 3;fill 3 3 1;fill 0 3 1;"), 7);
        s.due("of 32", Sentences.reads(head("32", "0", "0") + "set 31 1;swap 31 0;fill 31 31 0;"), 4);
        s.faulty(HEAD + "set 4 1;", 2, 31);
        s.faulty(HEAD + "add 4 1;", 2, 31);
        s.faulty(HEAD + "swap 4 1;", 2, 32);
        s.faulty(HEAD + "swap 1 4;", 2, 34);
        s.faulty(HEAD + "fill 4 4 1;", 2, 32);
        s.faulty(HEAD + "fill 1 4 1;", 2, 34);
        s.faulty(head("2", "0", "0") + "set 2 0;", 2, 31);
        s.faulty(head("32", "0", "0") + "set 32 0;", 2, 32);
        s.faulty(HEAD + "swap 0 0;", 2, 34);
        s.faulty(HEAD + "swap 3 3;", 2, 34);
        s.of(TERMS, "fill: D not below C), V 0 .. 255, N of scan 1 .. 32");
        s.due("D is C", Sentences.reads(HEAD + "fill 0 0 0;fill 3 3 0;"), 3);
        s.faulty(HEAD + "fill 1 0 0;", 2, 34);
        s.faulty(HEAD + "fill 3 2 0;", 2, 34);
        s.due("V", Sentences.reads(HEAD + "set 0 0;set 0 255;add 0 0;add 0 255;fill 0 1 0;fill 0 1 255;"), 7);
        s.faulty(HEAD + "set 0 256;", 2, 33);
        s.faulty(HEAD + "add 0 256;", 2, 33);
        s.faulty(HEAD + "fill 0 1 256;", 2, 36);
        s.due("N", Sentences.reads(HEAD + "scan 1;scan 32;"), 3);
        s.faulty(HEAD + "scan 0;", 2, 32);
        s.faulty(HEAD + "scan 33;", 2, 32);
    }

    private static void events() {
        s.of(TERMS, "EVENTS 0 .. 39 are numbered as they stand");
        CopyWhileRun x = Sentences.tell(HEAD + "tear;".repeat(39) + "finish;");
        s.due("the last of 40", x.event(39, 0), 7);
        s.due("the one ahead", x.event(38, 0), 8);
        s.due("the first", x.event(0, 0), 8);
        s.due("a 41st", x.event(40, 0), -2);
        s.of(TERMS, "by acts there may be more behind them");
        s.due("an act", x.does(0, 1, 1, 0), 0);
        s.due("EVENT 40", x.event(40, 0), 0);
        for (int i = 1; i < 20; i++) {
            x.does(8, 0, 0, 0);
        }
        s.due("EVENT 59", x.event(59, 0), 8);
        s.due("EVENT 60", x.event(60, 0), -2);
        s.of(TERMS, "TICK t: behind the first t EVENTS (told, of acts)");
        s.row("value(1)", 39, t -> x.value(1, t), 0, 0, 1, 1);
        s.due("the last TICK", x.value(1, 60), 1);
        s.due("a TICK more", x.value(1, 61), -2);
        s.due("a TICK below 0", x.value(1, -1), -2);
        s.of(TERMS, "set, add, swap, fill are COMMANDS");
        CopyWhileRun y = Sentences.tell(HEAD + "full;part;scan 1;finish;tear;set 0 1;add 0 1;swap 0 1;fill 0 1 1;");
        s.row("replays, without a copy", 0, t -> Sentences.tell(HEAD
                + "full;part;scan 1;tear;set 0 1;add 0 1;swap 0 1;fill 0 1 1;").replays(t), 0, 0, 0, 0, 0, 1, 2, 3, 4);
        s.row("share, above", 0, e -> y.share(e, 0) == -1000 ? 0 : 1, 0, 0, 0, 0, 0, 1, 1, 1);
    }

    private static void tokens() {
        s.of(TERMS, "TOKENS, blanks (32, 10) aside, the longest: words (a .. z), numbers (digits), the sign");
        s.due("blanks all over", Sentences.reads("\n store \n cells 4\nlaw 0  odds\n5\n;\n \nset\n0\n1\n;\n "), 2);
        s.due("as few as can be", Sentences.reads("store cells4law0odds5;set0 1;scan1;full;"), 4);
        s.due("blanks alone", Sentences.reads(" \n\n "), 0);
        s.faulty("store\tcells 4 law 0 odds 5;", 1, 5);
        s.faulty("store\rcells 4 law 0 odds 5;", 1, 5);
        s.faulty("store" + (char) 0 + "cells 4 law 0 odds 5;", 1, 5);
        s.faulty("store" + (char) 160 + "cells 4 law 0 odds 5;", 1, 5);
        s.faulty("store cells 4 law 0 odds 5" + (char) 138 + ";", 1, 26);
        s.faulty("storecells 4 law 0 odds 5;", 1, 0);
        s.faulty("store cells 4 5 law 0 odds 5;", 1, 14);
        s.faulty(HEAD + "fulls;", 1, 27);
        s.faulty(HEAD + "fullfull;", 1, 27);
        s.faulty(HEAD + "set 01 01 1;", 1, 37);
        s.faulty(HEAD + "fullz;", 1, 27);
        s.faulty(HEAD + "fulla;", 1, 27);
        s.faulty(HEAD + "afull;", 1, 27);
        s.faulty(HEAD + "zfull;", 1, 27);
        s.due("a number of noughts and nines", Sentences.tell(HEAD + "set 0 099;set 0 90;").event(0, 2), 99);
        s.due("the longest number", Sentences.tell(HEAD + "set 0 12;").event(0, 2), 12);
        s.due("noughts ahead", Sentences.tell(HEAD + "set 0003 000000000000000000012;").event(0, 2), 12);
        s.faulty(HEAD + "`full;", 1, 27);
        s.faulty(HEAD + "full{", 1, 31);
        s.faulty(HEAD + "Full;", 1, 27);
        s.faulty(HEAD + "fulL;", 1, 27);
        s.faulty(HEAD + "set 0 /;", 1, 33);
        s.faulty(HEAD + "set 0 :;", 1, 33);
        s.faulty(HEAD + "set 0 +1;", 1, 33);
        s.faulty(HEAD + "full:", 1, 31);
        s.faulty(HEAD + "full,", 1, 31);
    }

    private static void faults() {
        s.of(TERMS, "FAULTS, the first by its place (a TOKEN's first byte");
        s.faulty(HEAD + "  set 0 9999; #", 2, 35);
        s.faulty(HEAD + "set 9 #;", 2, 31);
        s.faulty(HEAD + "set # 999;", 1, 31);
        s.faulty(HEAD + "\nabcdef 1;", 1, 28);
        s.faulty(head("99", "9", "99"), 2, 12);
        s.faulty(head("9", "9", "99"), 2, 18);
        s.of(TERMS, "the end's), of one place the least: 1 a TOKEN that is none, or can't stand there "
                + "(store behind the first LINE, another word ahead of it)");
        s.faulty("store", 1, 5);
        s.faulty("store cells", 1, 11);
        s.faulty("store cells 4", 1, 13);
        s.faulty(HEAD + "set", 1, 30);
        s.faulty(HEAD + "set 1 1", 1, 34);
        s.faulty(HEAD + "set 1 1 \n", 1, 36);
        s.faulty(HEAD + "store;", 1, 27);
        s.faulty("set 0 1;" + HEAD, 1, 0);
        s.faulty("tear;", 1, 0);
        s.faulty("7;", 1, 0);
        s.faulty("?", 1, 0);
        s.faulty(FORTY + "store;", 1, 227);
        s.faulty(FORTY + "7;", 1, 227);
        s.faulty(FORTY + "?", 1, 227);
        s.faulty(HEAD + "law 1;", 1, 27);
        s.faulty(HEAD + "pull;", 1, 27);
        s.faulty(HEAD + "fuel;", 1, 27);
        s.faulty(HEAD + "fulk;", 1, 27);
        s.faulty(HEAD + "ful;", 1, 27);
        s.faulty("stare cells 4 law 0 odds 5;", 1, 0);
        s.faulty("store bells 4 law 0 odds 5;", 1, 6);
        s.faulty("store cells 4 lay 0 odds 5;", 1, 14);
        s.faulty("store cells 4 law 0 adds 5;", 1, 20);
        s.of(TERMS, "2 a number out of its bounds, not as said");
        s.faulty(HEAD + "set 4 256;", 2, 31);
        s.faulty(HEAD + "set 99999999999 1;", 2, 31);
        s.faulty(HEAD + "set 4294967296 1;", 2, 31);
        s.faulty(HEAD + "set 0 4294967296;", 2, 33);
        s.faulty(HEAD + "set 0 18446744073709551617;", 2, 33);
        s.faulty(HEAD + "swap 2 2;", 2, 34);
        s.faulty(HEAD + "fill 2 1 256;", 2, 34);
        s.of(TERMS, "3 a 41st EVENT, at its word");
        s.due("40 of them", Sentences.reads(FORTY), 41);
        s.faulty(FORTY + "tear;", 3, 227);
        s.faulty(FORTY + " \nset 9 9;", 3, 229);
        s.faulty(FORTY + "full", 3, 227);
        s.faulty(FORTY + "scan scan", 3, 227);
    }

    private static void slots() {
        s.of(TERMS, "SLOTS 0 .. 3 have rows of numbers of 1, 2, 4 or 8 bytes (WIDTH 0 .. 3), at most 60, or nothing");
        CopyWhileRun x = Sentences.tell(HEAD);
        s.due("nothing at first", x.count(7), 0);
        s.row("write to nothing", -1, i -> x.write(i, 0, 1), -2, -6, -6, -6, -6, -2);
        s.row("row of a slot", -1, i -> x.row(i, 0, 1), -2, 0, 0, 0, 0, -2);
        s.row("row of a width", -1, w -> x.row(0, w, 1), -2, 0, 0, 0, 0, -2);
        s.row("row of a length", 59, n -> x.row(0, 3, n), 0, 0, -2);
        s.row("row of none", -1, n -> x.row(0, 3, n), -3, 0, 0);
        s.of(TERMS, "-2 (-1,000) is asked ahead of -5, -6");
        s.withoutStore("may, nothing in the slot", -2, y -> y.may(0));
        s.withoutStore("undo, no act", -2, CopyWhileRun::undo);
        CopyWhileRun z = Sentences.tell(HEAD);
        for (int i = 0; i < 20; i++) {
            z.does(8, 0, 0, 0);
        }
        s.due("a 21st act", z.does(8, 0, 0, 0), -5);
        s.due("a 21st act of no kind", z.does(9, 0, 0, 0), -2);
        s.due("a 21st act out of bounds", z.does(0, 4, 0, 0), -2);
        s.due("back(3)", z.back(3), -2);
        s.due("paste of nothing to no slot", z.paste(0, 0, 4, 0, 0), -2);
        s.due("paste of no slot to nothing", z.paste(-1, 0, 0, 0, 0), -2);
    }

    private static void commands() {
        s.of(TERMS, "At TICK 0 all CELLS are 0, none is DIRTY");
        CopyWhileRun x = Sentences.tell(head("32", "0", "0") + "fill 0 31 255;");
        s.all("value at 0", 0, c -> x.value(c, 0), 0, 1, 30, 31);
        s.all("dirty at 0", 0, c -> x.dirty(c, 0), 0, 1, 30, 31);
        s.due("dirties(0)", x.dirties(0), 0);
        s.due("sum(0)", x.sum(0), 0);
        s.of(TERMS, "set: C is V");
        CopyWhileRun y = Sentences.tell(HEAD + "set 3 255;set 3 255;set 3 0;");
        s.row("value(3)", 0, t -> y.value(3, t), 0, 255, 255, 0);
        s.row("changes", 0, y::changes, 1, 0, 1);
        s.of(TERMS, "add: C is V more, modulo 256");
        CopyWhileRun z = Sentences.tell(HEAD + "add 0 255;add 0 0;add 0 1;add 0 255;add 0 255;add 0 2;");
        s.row("value(0)", 0, t -> z.value(0, t), 0, 255, 255, 0, 255, 254, 0);
        s.row("changes", 0, z::changes, 1, 0, 1, 1, 1, 1);
        s.of(TERMS, "swap: C and D change their values");
        CopyWhileRun w = Sentences.tell(HEAD + "set 0 9;swap 0 3;swap 0 3;swap 3 0;swap 1 2;set 0 9;swap 0 3;");
        s.row("value(0)", 0, t -> w.value(0, t), 0, 9, 0, 9, 0, 0, 9, 9);
        s.row("value(3)", 0, t -> w.value(3, t), 0, 0, 9, 0, 9, 9, 9, 9);
        s.row("changes", 0, w::changes, 1, 2, 2, 2, 0, 1, 0);
        s.of(TERMS, "fill: C .. D are V");
        CopyWhileRun v = Sentences.tell(HEAD + "fill 1 1 5;fill 1 2 6;fill 0 3 7;fill 3 3 0;");
        s.row("sum", 0, v::sum, 0, 5, 12, 28, 21);
        s.row("value(0)", 0, t -> v.value(0, t), 0, 0, 0, 7, 7);
        s.row("value(3)", 0, t -> v.value(3, t), 0, 0, 0, 7, 0);
    }

    private static void changedAndDirty() {
        s.of(TERMS, "A CELL is CHANGED by it, if its value is another one behind it");
        CopyWhileRun x = Sentences.tell(HEAD + "set 0 0;add 0 0;swap 0 1;fill 0 3 0;set 0 1;fill 0 3 1;full;");
        s.row("changes", 0, x::changes, 0, 0, 0, 0, 1, 3, 0);
        s.row("latest(0)", 0, t -> x.latest(0, t), -1, -1, -1, -1, -1, 4, 4, 4);
        s.of(TERMS, "A CELL is DIRTY from when it is CHANGED");
        s.row("dirties", 0, x::dirties, 0, 0, 0, 0, 0, 1, 4, 4);
        CopyWhileRun y = Sentences.tell(HEAD + "set 0 1;set 0 0;");
        s.row("dirty(0), its value gone back", 0, t -> y.dirty(0, t), 0, 1, 1);
    }

    private static void copiesBegun() {
        CopyWhileRun x = Sentences.tell(HEAD + "full;finish;part;finish;set 2 9;part;");
        s.of(TERMS, "full begins a COPY that WANTS all CELLS, part one that WANTS those that are DIRTY");
        s.row("copy(., 3)", 0, i -> x.copy(i, 3), 4, 0, 1);
        s.row("copy(., 0)", 0, i -> x.copy(i, 0), 1, 0, 0);
        CopyWhileRun wide = Sentences.tell(head("32", "0", "0") + "full;finish;fill 0 31 1;part;finish;");
        s.row("copy(., 3) of 32", 0, i -> wide.copy(i, 3), 32, 32);
        s.of(TERMS, "its MARK is the TICK ahead of that EVENT");
        s.row("copy(., 1)", 0, i -> x.copy(i, 1), 0, 2, 5);
        s.of(TERMS, "It is OPEN then");
        s.row("open", 0, x::open, -1, 0, -1, 1, -1, -1, 2);
        s.row("copy(., 2)", 0, i -> x.copy(i, 2), 1, 1, 0);
    }

    private static void refusals() {
        s.of(TERMS, "REFUSED (nothing is done), by the first of these: full, part, if a COPY is OPEN (reason 1)");
        CopyWhileRun x = Sentences.tell(HEAD + "full;scan 1;full;part;set 0 1;finish;part;full;part;");
        s.row("refused", 0, x::refused, 0, 0, 1, 1, 0, 0, 0, 1, 1);
        s.row("copies", 0, x::copies, 0, 1, 1, 1, 1, 1, 1, 2, 2, 2);
        s.row("open", 0, x::open, -1, 0, 0, 0, 0, 0, -1, 1, 1, 1);
        s.row("waiting", 0, x::waiting, -1, 4, 3, 3, 3, 3, -1, 1, 1, 1);
        s.due("its MARK stays", x.copy(1, 1), 6);
        s.of(TERMS, "scan, finish, tear, if none is (2)");
        CopyWhileRun y = Sentences.tell(HEAD + "set 0 1;scan 1;finish;tear;full;tear;scan 32;finish;tear;");
        s.row("refused", 0, y::refused, 0, 2, 2, 2, 0, 0, 2, 2, 2);
        s.row("dirties", 1, y::dirties, 1, 1, 1, 1, 1, 1, 1, 1, 1);
        s.row("work", 1, y::work, 0, 0, 0, 0, 0, 0, 0, 0, 0);
        s.row("chain", 1, y::chain, 0, 0, 0, 0, 0, 0, 0, 0, 0);
        s.row("copy(0)", 0, w -> y.copy(0, w), 1, 4, 2, 4, 0, 0, 6);
        s.of(TERMS, "part, if there is no WHOLE COPY (3)");
        CopyWhileRun z = Sentences.tell(HEAD + "part;full;tear;part;full;part;finish;part;finish;part;");
        s.row("refused", 0, z::refused, 3, 0, 0, 3, 0, 1, 0, 0, 0, 0);
        s.row("copies", 0, z::copies, 0, 0, 1, 1, 1, 2, 2, 2, 3, 3, 4);
    }

    private static void savedCells() {
        s.of(TERMS, "While it is OPEN: a CELL it WANTS and has not KEPT is KEPT (its value ahead of that) just ahead of "
                + "its first CHANGE (of several by one EVENT the least first): it is SAVED");
        CopyWhileRun x = Sentences.tell(HEAD + "set 3 7;full;scan 1;fill 0 3 7;set 2 8;finish;set 1 9;");
        s.row("order(0)", 0, i -> x.order(0, i), 0, 1, 2, 3, -1);
        s.row("saved(0)", 0, c -> x.saved(0, c), 0, 1, 1, 0);
        s.row("kept(0)", 0, c -> x.kept(0, c), 0, 0, 0, 7);
        s.row("saves", 0, x::saves, 0, 0, 0, 2, 0, 0, 0);
        CopyWhileRun swapped = Sentences.tell(HEAD + "set 3 1;full;swap 3 1;");
        s.row("order of a swap", 0, i -> swapped.order(0, i), 1, 3, -1);
        s.row("kept of a swap", 0, c -> swapped.kept(0, c), -1, 0, -1, 1);
        CopyWhileRun none = Sentences.tell(HEAD + "full;set 0 0;add 0 0;swap 0 1;fill 0 3 0;");
        s.row("saves without a change", 1, none::saves, 0, 0, 0, 0);
        CopyWhileRun part = Sentences.tell(HEAD + "full;finish;set 1 1;part;set 0 1;set 1 2;set 1 3;");
        s.row("saves of a part", 3, part::saves, 0, 0, 1, 0);
        s.row("kept of a part", 0, c -> part.kept(1, c), -1, 1, -1, -1);
        CopyWhileRun all = Sentences.tell(head("32", "1", "0") + "full;fill 0 31 1;");
        s.due("all at once", all.saves(1), 32);
        s.due("the least first, whatever the law", all.order(0, 0), 0);
        s.due("the greatest last", all.order(0, 31), 31);
    }

    private static String five(int law, String told) {
        return "store cells 5 law " + law + " odds 0;" + told;
    }

    private static void scans() {
        s.of(TERMS, "scan: the next N CELLS that it WANTS and has not KEPT (all, if fewer) are KEPT as they are, by LAW, "
                + "0: the least first");
        CopyWhileRun x = Sentences.tell(five(0, "set 1 9;full;scan 3;scan 3;scan 1;set 1 8;"));
        s.row("order", 0, i -> x.order(0, i), 0, 1, 2, 3, 4, -1);
        s.row("waiting", 2, x::waiting, 5, 2, 0, 0, 0);
        s.row("refused", 1, x::refused, 0, 0, 0, 0);
        s.due("as they are", x.kept(0, 1), 9);
        s.due("all of them, if fewer", Sentences.tell(five(0, "full;scan 32;")).waiting(2), 0);
        s.due("just so many", Sentences.tell(five(0, "full;scan 5;")).waiting(2), 0);
        s.due("one less", Sentences.tell(five(0, "full;scan 4;")).waiting(2), 1);
        s.of(TERMS, "1: the greatest first");
        CopyWhileRun one = Sentences.tell(five(1, "full;scan 2;set 2 1;scan 1;scan 1;"));
        s.row("order", 0, i -> one.order(0, i), 4, 3, 2, 1, 0, -1);
        s.due("of 32", Sentences.tell(head("32", "1", "0") + "full;scan 1;").order(0, 0), 31);
        s.of(TERMS, "2: those CHANGED by the latest EVENT first (never CHANGED ones behind all), of several the least");
        CopyWhileRun two = Sentences.tell(five(2, "set 3 1;fill 1 2 1;full;scan 1;scan 4;"));
        s.row("order, one CHANGED by EVENT 0", 0, i -> two.order(0, i), 1, 2, 3, 0, 4, -1);
        CopyWhileRun late = Sentences.tell(five(2, "set 4 1;set 1 1;set 4 2;full;scan 32;"));
        s.row("order by the latest", 0, i -> late.order(0, i), 4, 1, 0, 2, 3);
        CopyWhileRun same = Sentences.tell(five(2, "set 4 1;set 1 1;set 4 1;full;scan 32;"));
        s.row("order without a CHANGE", 0, i -> same.order(0, i), 1, 4, 0, 2, 3);
        CopyWhileRun never = Sentences.tell(five(2, "full;scan 32;"));
        s.row("order of never CHANGED ones", 0, i -> never.order(0, i), 0, 1, 2, 3, 4);
        CopyWhileRun again = Sentences.tell(five(2, "set 4 1;full;finish;full;scan 2;"));
        s.row("order by a CHANGE ahead of another COPY", 0, i -> again.order(1, i), 4, 0, -1);
        CopyWhileRun last = Sentences.tell(five(2, "tear;".repeat(38) + "set 1 1;set 4 1;"));
        last.does(4, 0, 0, 0);
        for (int i = 1; i < 19; i++) {
            last.does(5, 0, 0, 0);
        }
        s.due("EVENT 59 scans", last.does(6, 32, 0, 0), 0);
        s.row("order by EVENT 59", 0, i -> last.order(0, i), 4, 1, 0, 2, 3, -1);
        s.of(TERMS, "3: even numbers first, then odd ones, the least first");
        CopyWhileRun three = Sentences.tell(five(3, "full;scan 2;scan 2;scan 2;"));
        s.row("order", 0, i -> three.order(0, i), 0, 2, 4, 1, 3, -1);
        CopyWhileRun wide = Sentences.tell(head("32", "3", "0") + "full;scan 32;");
        s.row("order of 32", 14, i -> wide.order(0, i), 28, 30, 1, 3);
        s.due("the last of 32", wide.order(0, 31), 31);
    }

    private static void ends() {
        s.of(TERMS, "finish: all that are left are KEPT likewise, and the COPY is WHOLE: "
                + "only CELLS CHANGED by EVENTS from its MARK on are DIRTY then");
        CopyWhileRun x = Sentences.tell("store cells 4 law 1 odds 5;set 0 1;full;scan 1;set 1 1;finish;part;finish;");
        s.row("order", 0, i -> x.order(0, i), 3, 1, 2, 0, -1);
        s.row("dirty at 5", 0, c -> x.dirty(c, 5), 0, 1, 0, 0);
        s.row("dirties", 0, x::dirties, 0, 1, 1, 1, 2, 1, 1, 0);
        s.row("copy(., 2)", 0, i -> x.copy(i, 2), 1, 1);
        CopyWhileRun none = Sentences.tell(HEAD + "full;scan 32;finish;part;finish;");
        s.row("copy(., 2), none left", 0, i -> none.copy(i, 2), 1, 1);
        s.row("copy(., 4), none left", 0, i -> none.copy(i, 4), 4, 0);
        for (int law = 0; law < 4; law++) {
            CopyWhileRun y = Sentences.tell(five(law, "set 1 1;full;finish;"));
            int[][] orders = {{0, 1, 2, 3, 4}, {4, 3, 2, 1, 0}, {1, 0, 2, 3, 4}, {0, 2, 4, 1, 3}};
            for (int i = 0; i < 5; i++) {
                s.due("finish by law " + law + ", order(0, " + i + ")", y.order(0, i), orders[law][i]);
            }
        }
        s.of(TERMS, "tear: the COPY is TORN, what it KEPT is gone");
        CopyWhileRun torn = Sentences.tell(HEAD + "set 0 1;full;scan 1;set 1 1;tear;");
        s.row("copy(0)", 0, w -> torn.copy(0, w), 1, 1, 2, 4, 2, 1, 5);
        s.row("kept(0)", 0, c -> torn.kept(0, c), -1, -1, -1, -1);
        s.due("none is OPEN", torn.open(5), -1);
        s.due("no CHAIN", torn.chain(5), 0);
        s.of(TERMS, "DIRTY ones stay");
        s.row("dirties", 0, torn::dirties, 0, 1, 1, 1, 2, 2);
        CopyWhileRun part = Sentences.tell(HEAD + "full;finish;set 0 1;part;set 2 1;tear;part;");
        s.row("dirties", 2, part::dirties, 0, 1, 1, 2, 2, 2);
        s.due("the next part WANTS them", part.copy(2, 3), 2);
        s.of(TERMS, "COPIES 0, 1, .. are numbered as they are begun");
        CopyWhileRun y = Sentences.tell(HEAD + "part;full;full;tear;full;finish;part;tear;part;");
        s.row("open", 0, y::open, -1, -1, 0, 0, -1, 1, -1, 2, -1, 3);
        s.row("copy(., 1)", 0, i -> y.copy(i, 1), 1, 4, 6, 8, -2);
    }

    private static void chains() {
        s.of(TERMS, "CHAIN at a TICK: the last WHOLE full COPY by then, and WHOLE parts begun behind it, in order");
        CopyWhileRun x = Sentences.tell(HEAD
                + "full;finish;part;tear;part;finish;full;tear;part;finish;full;finish;part;");
        s.row("chain", 0, x::chain, 0, 0, 1, 1, 1, 1, 2, 2, 2, 2, 3, 3, 1, 1);
        s.row("linked(11)", 0, i -> x.linked(11, i), 0, 2, 4, -1);
        s.row("linked(12)", 0, i -> x.linked(12, i), 5, -1);
        s.row("linked(1)", 0, i -> x.linked(1, i), -1);
        s.of(TERMS, "RAISED: CELLS of its COPIES, later ones on top");
        CopyWhileRun y = Sentences.tell(HEAD + "fill 0 1 1;full;finish;set 0 2;part;finish;set 0 3;part;finish;");
        s.row("raised(0)", 0, t -> y.raised(0, t), 0, 0, 0, 1, 1, 1, 2, 2, 2, 3);
        s.row("raised(1)", 0, t -> y.raised(1, t), 0, 0, 0, 1, 1, 1, 1, 1, 1, 1);
        s.of(TERMS, "then COMMANDS from the MARK of its last COPY up to the TICK are REPLAYED");
        CopyWhileRun z = Sentences.tell(HEAD + "set 0 1;full;add 0 1;finish;add 0 1;part;tear;");
        s.row("replays", 0, z::replays, 0, 1, 1, 2, 1, 2, 2, 2);
        s.row("restored(0)", 0, t -> z.restored(0, t), 0, 1, 1, 2, 2, 3, 3, 3);
        s.of(TERMS, "Without a WHOLE full COPY all is REPLAYED on CELLS that are 0");
        CopyWhileRun w = Sentences.tell(HEAD + "set 0 1;full;add 0 1;tear;add 0 1;full;add 0 1;");
        s.row("replays", 0, w::replays, 0, 1, 1, 2, 2, 3, 3, 4);
        s.row("raised(0)", 0, t -> w.raised(0, t), 0, 0, 0, 0, 0, 0, 0, 0);
        s.row("restored(0)", 0, t -> w.restored(0, t), 0, 1, 1, 2, 2, 3, 3, 4);
    }

    private static void tree() {
        s.of(TERMS, "TREE: REGIONS at LEVEL 0 are CELLS 0 .. 31, at LEVEL k (up to 5) 32 by 2 to the k in all, "
                + "REGION i of 2 to the k CELLS from i times that on");
        CopyWhileRun x = Sentences.tell(head("32", "0", "0") + "set 15 1;set 16 1;set 31 1;");
        for (int level = 0; level <= 5; level++) {
            int k = level;
            s.row("region(" + k + "), the last and one more", (32 >> k) - 1, i -> x.region(k, i, 0), 0, -2);
        }
        s.row("region(4) of cell 15", 0, i -> x.region(4, i, 1), 1, 0, -2);
        s.row("region(4) of cells 15, 16", 0, i -> x.region(4, i, 2), 1, 1, -2);
        s.row("region(3)", 0, i -> x.region(3, i, 2), 0, 1, 1, 0, -2);
        s.row("region(2)", 0, i -> x.region(2, i, 2), 0, 0, 0, 1, 1, 0, 0, 0, -2);
        s.row("region(1)", 6, i -> x.region(1, i, 2), 0, 1, 1, 0);
        s.row("region(0)", 14, i -> x.region(0, i, 2), 0, 1, 1, 0);
        s.row("the last ones", 0, k -> x.region(k, (32 >> k) - 1, 3), 1, 1, 1, 1, 1, 1);
        s.row("the last ones, ahead of that", 0, k -> x.region(k, (32 >> k) - 1, 2), 0, 0, 0, 0, 1, 1);
        s.of(TERMS, "A REGION is DIRTY, if a CELL of it is (by cells told)");
        CopyWhileRun few = Sentences.tell("store cells 3 law 0 odds 0;fill 0 2 1;");
        s.row("region(0)", 0, i -> few.region(0, i, 1), 1, 1, 1, 0, 0);
        s.row("region(1)", 0, i -> few.region(1, i, 1), 1, 1, 0);
        s.due("the last cell of 32", few.region(0, 31, 1), 0);
        s.row("regions", 0, k -> few.regions(k, 1), 3, 2, 1, 1, 1, 1);
        s.of(TERMS, "LOOKS: the one REGION of LEVEL 5 is looked at");
        s.due("none is DIRTY", x.looks(0), 1);
        s.of(TERMS, "of one that is DIRTY, above LEVEL 0, both halves");
        s.due("one is", x.looks(1), 11);
        s.of(TERMS, "and so on: how many are");
        s.due("two in unlike halves", x.looks(2), 19);
        x.does(3, 0, 31, 2);
        s.due("all are", x.looks(4), 63);
        CopyWhileRun near = Sentences.tell(head("32", "0", "0") + "set 0 1;set 1 1;set 2 1;set 4 1;set 8 1;");
        s.row("one by one", 0, near::looks, 1, 11, 11, 13, 17, 23);
    }

    private static void seen() {
        s.of(TERMS, "SEEN: a SLOT's row, three numbers each: a TICK, a CELL, its value (0 .. 255)");
        CopyWhileRun x = Sentences.tell(HEAD + "set 3 255;add 0 1;");
        long[][] such = {{0, 0, 0}, {2, 3, 255}, {0, 3, 0}, {2, 0, 1}};
        for (long[] one : such) {
            Sentences.fill(x, 0, 3, one);
            s.due("plain", x.plain(0), 1);
        }
        long[][] none = {{-1, 0, 0}, {3, 0, 0}, {0, -1, 0}, {0, 4, 0}, {0, 0, -1}, {0, 0, 256},
            {4294967296L, 0, 0}, {0, 4294967296L, 0}, {0, 0, 4294967296L}, {Long.MIN_VALUE, 0, 0}};
        for (long[] one : none) {
            Sentences.fill(x, 0, 3, one);
            s.due("plain of none such", x.plain(0), -2);
        }
        s.of(TERMS, "one EVENT told was left out (as if it were not there");
        CopyWhileRun y = Sentences.tell(HEAD + "set 0 1;add 0 1;set 0 5;full;");
        Sentences.fill(y, 0, 1, 2, 0, 1);
        s.due("either of two", y.may(0), 2);
        s.due("the first one", y.which(0), 0);
        s.due("not as told", y.plain(0), 0);
        s.of(TERMS, "TICKS as told), or none was");
        Sentences.fill(y, 0, 1, 1, 0, 0, 2, 0, 1);
        s.due("the first one alone", y.may(0), 1);
        s.due("its number", y.which(0), 0);
        Sentences.fill(y, 0, 1, 2, 0, 1, 3, 0, 5, 4, 0, 5);
        s.due("either of two", y.may(0), 2);
        Sentences.fill(y, 0, 1, 2, 0, 2, 3, 0, 2);
        s.due("the third", y.which(0), 2);
        Sentences.fill(y, 0, 1, 4, 0, 5);
        s.due("none was", y.plain(0), 1);
    }

    private static void worths() {
        s.of(TERMS, "Of the COMMANDS among EVENTS 0 .. 7 told a set alone is there, the others of these are left out "
                + "(all else stays): it is worth how many CELLS are not 0 at the last TICK");
        CopyWhileRun x = Sentences.tell(HEAD + "tear;".repeat(7) + "set 0 1;set 1 1;");
        s.due("EVENT 8 stays", x.worth(0), 1);
        s.due("EVENT 7 is one of these", x.worth(128), 2);
        x.does(0, 3, 1, 0);
        s.due("an act stays", x.worth(0), 2);
        CopyWhileRun few = Sentences.tell(HEAD + "set 0 1;");
        few.does(0, 1, 1, 0);
        s.due("an act among the first eight stays", few.worth(0), 1);
        s.due("its bit does not count", few.worth(2), 1);
        s.due("both", few.worth(1), 2);
        s.due("no EVENTS", Sentences.tell(HEAD).worth(255), 0);
        CopyWhileRun acts = Sentences.tell(HEAD);
        acts.does(0, 1, 1, 0);
        s.due("acts alone stay", acts.worth(0), 1);
        s.of(TERMS, "They come in an order, each has what the set is worth more by it (below 0, too)");
        CopyWhileRun two = Sentences.tell(HEAD + "set 0 1;set 0 0;");
        s.row("share(0)", 0, w -> two.share(0, w), 1, 2);
        s.row("share(1)", 0, w -> two.share(1, w), -1, 2);
        CopyWhileRun down = Sentences.tell(HEAD + "fill 0 3 0;".repeat(1) + "add 3 1;".repeat(6) + "fill 0 3 0;");
        s.row("share(7), below 0", 0, w -> down.share(7, w), -6, 7);
        s.of(TERMS, "each order is as likely: the mean");
        CopyWhileRun eight = Sentences.tell(HEAD + "set 0 1;".repeat(8));
        s.all("share of eight alike, above", 1, e -> eight.share(e, 0), 0, 1, 2, 3, 4, 5, 6, 7);
        s.all("share of eight alike, below", 8, e -> eight.share(e, 1), 0, 1, 2, 3, 4, 5, 6, 7);
        CopyWhileRun three = Sentences.tell(HEAD + "set 0 1;set 0 2;set 1 1;");
        s.row("share(1)", 0, w -> three.share(1, w), 1, 2);
        s.row("share(2)", 0, w -> three.share(2, w), 1, 1);
    }

    private static void game() {
        s.of(TERMS, "Each of two EVENTS told is left out, or not");
        CopyWhileRun x = Sentences.tell(HEAD + "full;finish;full;scan 1;tear;full;scan 1;");
        s.row("gets(0, 1, x, 0)", -1, v -> x.gets(0, 1, v, 0), -1000, 4, -3, -1000);
        s.row("gets(0, 1, 0, y)", -1, v -> x.gets(0, 1, 0, v), -1000, 4, 0, -1000);
        x.does(8, 0, 0, 0);
        s.due("an act is none of these", x.gets(0, 7, 0, 0), -1000);
        s.of(TERMS, "It GETS how many CELLS are KEPT in WHOLE COPIES of all, less 3, if it is left out");
        s.due("not of TORN ones, of OPEN ones", x.gets(3, 4, 0, 0), 4);
        s.due("one is left out", x.gets(3, 4, 1, 0), 1);
        // without EVENT 4 the third full is REFUSED, and the act tears the second COPY
        s.due("the other one is left out", x.gets(3, 4, 0, 1), 4);
        CopyWhileRun two = Sentences.tell(HEAD + "full;finish;full;finish;set 0 1;part;finish;");
        s.due("of all WHOLE ones", two.gets(4, 5, 0, 0), 9);
        s.due("below 0", two.gets(0, 2, 1, 1), -3);
        s.of(TERMS, "the other one likewise");
        s.due("the other one", x.gets(4, 3, 1, 0), 1);
        s.due("the first one", x.gets(4, 3, 0, 1), 4);
        s.of(TERMS, "REST: neither GETS more by the other choice alone");
        s.due("as much by both", Sentences.tell("store cells 3 law 0 odds 0;full;tear;finish;").rests(1, 2), 3);
        s.due("one more by one choice", Sentences.tell("store cells 4 law 0 odds 0;full;tear;finish;").rests(1, 2), 2);
        s.due("one less by one choice", Sentences.tell("store cells 2 law 0 odds 0;full;tear;finish;").rests(1, 2), 1);
        s.due("two of two", Sentences.tell("store cells 8 law 0 odds 0;full;tear;tear;finish;").rests(1, 2), 9);
    }

    private static void chance() {
        s.of(TERMS, "CHANCE: each of the last k EVENTS (0 .. 6");
        CopyWhileRun x = Sentences.tell(HEAD + "set 0 1;set 1 1;" + "tear;".repeat(4));
        s.row("chance(1, k, 1)", -1, k -> x.chance(1, k, 1), -2, 1, 1, 1, 1, 1, 2, 2, -2);
        s.row("chance(0, k, 1)", -1, k -> x.chance(0, k, 1), -2, 1, 1, 1, 1, 1, 1, 2, -2);
        CopyWhileRun five = Sentences.tell(HEAD + "set 0 1;" + "tear;".repeat(4));
        s.row("mean(k, 1) of five", 4, k -> five.mean(k, 1), 1, 2, -2, -2);
        s.of(TERMS, "told, of acts) is left out with odds in ten, by itself");
        CopyWhileRun y = Sentences.tell("store cells 2 law 0 odds 3;set 0 1;");
        y.does(0, 0, 2, 0);
        s.row("the act alone", 0, w -> y.chance(0, 1, w), 1, 1);
        s.row("both", 0, w -> y.chance(0, 2, w), 91, 100);
        s.row("never left out", 0, w -> Sentences.tell("store cells 2 law 0 odds 0;set 0 1;").chance(0, 1, w), 1, 1);
        s.row("always left out", 0, w -> Sentences.tell("store cells 2 law 0 odds 10;set 0 1;").chance(0, 1, w), 0, 1);
        s.of(TERMS, "FRACTIONS are told in lowest terms (0 / 1)");
        s.row("0 / 1", 0, w -> x.chance(3, 6, w), 0, 1);
        s.row("1 / 2", 0, w -> x.chance(0, 6, w), 1, 2);
        s.row("2 / 1", 0, w -> x.mean(0, w), 2, 1);
        s.row("a share of nothing", 0, w -> Sentences.tell(HEAD + "set 0 0;").share(0, w), 0, 1);
    }

    private static void draws() {
        s.of(TERMS, "DRAWS: x becomes (1103515245 x + 12345) modulo 2,147,483,648 (at first it is the seed)");
        // from seed 1: 8, 8, 3, 5, 1, 7, 0, 9; from 2,000,000,000: 4, 3, 1, 7, 6, 2, 7, 7
        for (int odds = 0; odds <= 10; odds++) {
            CopyWhileRun x = Sentences.tell("store cells 2 law 0 odds " + odds + ";" + "tear;".repeat(8));
            int[] ofOne = {0, 1, 2, 2, 3, 3, 4, 4, 5, 7, 8};
            int[] ofMost = {0, 0, 1, 2, 3, 4, 4, 5, 8, 8, 8};
            s.due("drawn(1, 0) by odds " + odds, x.drawn(1, 0), ofOne[odds]);
            s.due("drawn(2000000000, 0) by odds " + odds, x.drawn(2000000000, 0), ofMost[odds]);
        }
        s.of(TERMS, "a draw: x / 65536, cut, modulo 10");
        // from seed 0 x is 12345 at first: the draw is 0, then 8, 8, 7
        CopyWhileRun one = Sentences.tell("store cells 2 law 0 odds 1;tear;tear;tear;tear;");
        s.due("drawn(0, 0)", one.drawn(0, 0), 1);
        CopyWhileRun seven = Sentences.tell("store cells 2 law 0 odds 8;tear;tear;tear;tear;");
        s.due("drawn(0, 0)", seven.drawn(0, 0), 2);
        s.of(TERMS, "RUN drawn: EVENT by EVENT (told, of acts) a draw: below odds it is left out");
        // the first draw from seed 1 is 8
        s.due("8 is not below 8", Sentences.tell("store cells 2 law 0 odds 8;set 0 1;").drawn(1, 0), 0);
        s.due("8 is below 9", Sentences.tell("store cells 2 law 0 odds 9;set 0 1;").drawn(1, 0), 1);
        s.due("9 is below 10", Sentences.tell("store cells 2 law 0 odds 10;" + "tear;".repeat(8)).drawn(1, 0), 8);
        s.due("0 is not below 0", Sentences.tell("store cells 2 law 0 odds 0;tear;").drawn(0, 0), 0);
        CopyWhileRun acts = Sentences.tell("store cells 2 law 0 odds 4;tear;tear;");
        acts.does(8, 0, 0, 0);
        s.due("the act is drawn, too", acts.drawn(1, 0), 1);
    }
}
