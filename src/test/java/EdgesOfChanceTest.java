/** Promises 51 to 57, sentence by sentence: chance, acts, and runs drawn. */
public final class EdgesOfChanceTest {
    private static final int MOST = Integer.MAX_VALUE;
    private static final int LEAST = Integer.MIN_VALUE;
    private static final String HEAD = "store cells 4 law 0 odds 5;";
    private static final int[] NO_CELLS = {-1, 4, 5, 31, 32, MOST, LEAST};
    private static Sentences s;

    public static void main(String[] args) throws Exception {
        s = new Sentences(51, 57);
        chance();
        mean();
        does();
        undo();
        anew();
        drawn();
        luck();
        s.end();
    }

    private static String odds(int n) {
        return "store cells 4 law 0 odds " + n + ";";
    }

    private static void chance() {
        s.of(51, "CHANCE (IX): that a CELL is DIRTY at the last TICK, above, below");
        CopyWhileRun x = Sentences.tell(odds(3) + "set 0 1;set 1 1;full;finish;set 0 2;");
        s.row("k is 0", 0, w -> x.chance(0, 0, w), 1, 1);
        s.row("k is 0, not DIRTY", 0, w -> x.chance(1, 0, w), 0, 1);
        s.row("the last one", 0, w -> x.chance(0, 1, w), 7, 10);
        // DIRTY if the finish is left out
        s.row("the finish", 0, w -> x.chance(1, 2, w), 3, 10);
        // the cell is there, and the COPY is not made: 7/10 by 51/100
        s.row("all five", 0, w -> x.chance(1, 5, w), 357, 1000);
        CopyWhileRun most = Sentences.tell("store cells 32 law 0 odds 3;" + "add 31 1;".repeat(40));
        s.row("k is 6 of 40", 0, w -> most.chance(31, 6, w), 1, 1);
        CopyWhileRun six = Sentences.tell("store cells 32 law 0 odds 3;" + "add 31 1;".repeat(6));
        s.row("k is 6 of 6", 0, w -> six.chance(31, 6, w), 999271, 1000000);
        CopyWhileRun acts = Sentences.tell(odds(5));
        acts.does(0, 0, 1, 0);
        s.row("an act", 0, w -> acts.chance(0, 1, w), 1, 2);
        s.row("odds 0", 0, w -> Sentences.tell(odds(0) + "set 0 1;").chance(0, 1, w), 1, 1);
        s.row("odds 10", 0, w -> Sentences.tell(odds(10) + "set 0 1;").chance(0, 1, w), 0, 1);
        s.row("no EVENTS", 0, w -> Sentences.tell(HEAD).chance(0, 0, w), 0, 1);
        s.of(51, "-2: there are none such, not so many EVENTS");
        s.all("chance(., 0, 0)", -2, c -> x.chance(c, 0, 0), NO_CELLS);
        s.all("chance(0, ., 0)", -2, k -> x.chance(0, k, 0), -1, 6, 7, MOST, LEAST);
        s.all("chance(31, ., 0)", -2, k -> most.chance(31, k, 0), -1, 7, 8, 40, MOST, LEAST);
        s.all("chance(0, 0, .)", -2, w -> x.chance(0, 0, w), -1, 2, 3, MOST, LEAST);
        s.due("no EVENTS", Sentences.tell(HEAD).chance(0, 1, 0), -2);
        acts.undo();
        s.due("the act taken back", acts.chance(0, 1, 0), -2);
        s.withoutStore("chance(0, 0, 0)", -2, y -> y.chance(0, 0, 0));
    }

    private static void mean() {
        s.of(52, "The mean of how many are, above, below");
        CopyWhileRun x = Sentences.tell(odds(3) + "set 0 1;set 1 1;full;finish;set 0 2;");
        s.row("k is 0", 0, w -> x.mean(0, w), 1, 1);
        s.row("the last one", 0, w -> x.mean(1, w), 7, 10);
        // 0 and 1 are DIRTY without the finish, else 0 by the last one: 3/10 by 2, and 7/10 by 7/10
        s.row("the last two", 0, w -> x.mean(2, w), 109, 100);
        CopyWhileRun six = Sentences.tell("store cells 32 law 0 odds 3;" + "add 31 1;fill 0 31 9;".repeat(3));
        // 31 of them by one of three fills, 973/1000 each, and cell 31 by event 0, or by any of six
        s.row("k is 5", 0, w -> six.mean(5, w), 31163, 1000);
        s.row("k is 6", 0, w -> six.mean(6, w), 31162271, 1000000);
        s.row("no EVENTS", 0, w -> Sentences.tell(HEAD).mean(0, w), 0, 1);
        CopyWhileRun wide = Sentences.tell("store cells 32 law 0 odds 3;" + "fill 0 31 1;".repeat(6));
        s.row("32 cells, k is 6", 0, w -> wide.mean(6, w), 999271, 31250);
        s.row("32 cells, k is 5", 0, w -> wide.mean(5, w), 32, 1);
        s.of(52, "-2: there are none such, no STORE, not so many EVENTS");
        s.all("mean(., 0)", -2, k -> x.mean(k, 0), -1, 6, 7, MOST, LEAST);
        s.all("mean(., 0), six EVENTS", -2, k -> wide.mean(k, 0), -1, 7, 8, MOST, LEAST);
        s.all("mean(0, .)", -2, w -> x.mean(0, w), -1, 2, 3, MOST, LEAST);
        s.due("no EVENTS", Sentences.tell(HEAD).mean(1, 0), -2);
        s.withoutStore("mean(0, 0)", -2, y -> y.mean(0, 0));
        s.withoutStore("mean(0, 1)", -2, y -> y.mean(0, 1));
    }

    private static void does() {
        s.of(53, "An EVENT more, behind all, of a kind (0 .. 8), its numbers in their order a, b, c "
                + "(0 for those it has not): why it is REFUSED, or 0");
        CopyWhileRun x = Sentences.tell(HEAD);
        int[][] acts = {{8, 0, 0, 0, 2}, {5, 0, 0, 0, 3}, {4, 0, 0, 0, 0}, {4, 0, 0, 0, 1}, {5, 0, 0, 0, 1},
            {0, 3, 255, 0, 0}, {1, 3, 255, 0, 0}, {2, 3, 0, 0, 0}, {3, 0, 3, 255, 0}, {6, 1, 0, 0, 0},
            {6, 32, 0, 0, 0}, {7, 0, 0, 0, 0}, {7, 0, 0, 0, 2}, {6, 1, 0, 0, 2}, {5, 0, 0, 0, 0}, {0, 0, 0, 0, 0},
            {1, 0, 0, 0, 0}, {2, 0, 3, 0, 0}, {3, 3, 3, 0, 0}, {8, 0, 0, 0, 0}};
        for (int i = 0; i < acts.length; i++) {
            int[] one = acts[i];
            s.due("act " + i, x.does(one[0], one[1], one[2], one[3]), one[4]);
            s.due("acts", x.count(4), i + 1);
            s.due("its kind", x.event(i, 0), one[0]);
            s.due("why it is REFUSED", x.refused(i), one[4]);
        }
        s.due("EVENTS told", x.count(3), 0);
        s.due("LINES", x.count(5), 1);
        s.due("value(0, 9)", x.value(0, 9), 255);
        s.due("fill has three numbers", x.event(8, 3), 255);
        s.due("set has two", x.event(5, 3), -1);
        s.of(53, "-2: there are none such (numbers in their bounds, as said), no STORE");
        CopyWhileRun y = Sentences.tell(HEAD);
        int[][] none = {{-1, 0, 0, 0}, {9, 0, 0, 0}, {MOST, 0, 0, 0}, {LEAST, 0, 0, 0},
            {0, -1, 0, 0}, {0, 4, 0, 0}, {0, 0, -1, 0}, {0, 0, 256, 0}, {0, MOST, 0, 0}, {0, 0, MOST, 0},
            {1, -1, 0, 0}, {1, 4, 0, 0}, {1, 0, -1, 0}, {1, 0, 256, 0}, {1, LEAST, 0, 0}, {1, 0, LEAST, 0},
            {2, -1, 0, 0}, {2, 4, 0, 0}, {2, 0, -1, 0}, {2, 0, 4, 0}, {2, 0, 0, 0}, {2, 3, 3, 0},
            {3, -1, 0, 0}, {3, 4, 4, 0}, {3, 0, 4, 0}, {3, 1, 0, 0}, {3, 3, 2, 0}, {3, 0, 0, -1}, {3, 0, 0, 256},
            {3, -1, -1, 0}, {6, 0, 0, 0}, {6, 33, 0, 0}, {6, -1, 0, 0}, {6, MOST, 0, 0},
            {0, 0, 0, 1}, {1, 0, 0, -1}, {2, 0, 1, 1}, {4, 1, 0, 0}, {4, 0, 1, 0}, {4, 0, 0, 1}, {5, 1, 0, 0},
            {5, 0, -1, 0}, {5, 0, 0, 1}, {6, 1, 1, 0}, {6, 1, 0, 1}, {7, 1, 0, 0}, {7, 0, 1, 0}, {7, 0, 0, 1},
            {8, -1, 0, 0}, {8, 0, 1, 0}, {8, 0, 0, 1}};
        for (int[] one : none) {
            s.due("does(" + one[0] + ", " + one[1] + ", " + one[2] + ", " + one[3] + ")",
                    y.does(one[0], one[1], one[2], one[3]), -2);
        }
        s.due("none has come", y.count(4), 0);
        s.due("there is no TICK 1", y.sum(1), -2);
        s.withoutStore("does(4, 0, 0, 0)", -2, z -> z.does(4, 0, 0, 0));
        s.withoutStore("does(0, 0, 0, 0)", -2, z -> z.does(0, 0, 0, 0));
        s.of(53, "-5: there were 20 acts");
        s.due("a 21st", x.does(0, 0, 1, 0), -5);
        s.due("a 21st that would be REFUSED", x.does(8, 0, 0, 0), -5);
        s.due("none has come", x.count(4), 20);
        s.due("there is no TICK 21", x.sum(21), -2);
        s.due("a 21st that is none such", x.does(0, 4, 0, 0), -2);
        x.undo();
        s.due("a 20th again", x.does(0, 0, 9, 0), 0);
        s.due("it is there", x.value(0, 20), 9);
        CopyWhileRun forty = Sentences.tell(HEAD + "tear;".repeat(40));
        for (int i = 0; i < 20; i++) {
            s.due("act " + i + " behind 40", forty.does(1, 0, 1, 0), 0);
        }
        s.due("a 21st behind 40", forty.does(1, 0, 1, 0), -5);
        s.due("value(0, 60)", forty.value(0, 60), 20);
    }

    private static void undo() {
        s.of(54, "The latest act is taken back: how many there are");
        CopyWhileRun x = Sentences.tell(HEAD + "set 0 1;");
        x.does(4, 0, 0, 0);
        x.does(0, 0, 2, 0);
        x.does(7, 0, 0, 0);
        s.due("of three", x.undo(), 2);
        s.due("the COPY is OPEN again", x.open(3), 0);
        s.due("its CELL is SAVED", x.kept(0, 0), 1);
        s.due("of two", x.undo(), 1);
        s.due("it is not", x.kept(0, 0), -1);
        s.due("value(0, 2)", x.value(0, 2), 1);
        s.due("of one", x.undo(), 0);
        s.due("no COPY", x.copy(0, 0), -2);
        x.does(0, 0, 7, 0);
        s.due("undo() at once", x.undo(), 0);
        s.due("another act at once", x.does(6, 1, 0, 0), 2);
        s.due("it is REFUSED", x.refused(1), 2);
        s.due("nothing CHANGES", x.changes(1), 0);
        s.due("value(0, 2)", x.value(0, 2), 1);
        s.due("undo() again", x.undo(), 0);
        CopyWhileRun most = Sentences.tell(HEAD);
        for (int i = 0; i < 20; i++) {
            most.does(8, 0, 0, 0);
        }
        s.due("of twenty, REFUSED ones", most.undo(), 19);
        s.of(54, "-2: there is no STORE");
        s.withoutStore("undo()", -2, CopyWhileRun::undo);
        s.of(54, "-5: there is none");
        s.due("none is left", x.undo(), -5);
        s.due("EVENTS told stay", x.count(3), 1);
        s.due("value(0, 1)", x.value(0, 1), 1);
        s.due("no act was done", Sentences.tell(HEAD).undo(), -5);
        most.anew();
        s.due("behind anew()", most.undo(), -5);
    }

    private static void anew() {
        s.of(55, "All are: how many there were");
        CopyWhileRun x = Sentences.tell(HEAD + "set 0 1;full;");
        s.due("none", x.anew(), 0);
        x.does(0, 0, 2, 0);
        s.due("one", x.anew(), 1);
        for (int i = 0; i < 20; i++) {
            x.does(7, 0, 0, 0);
        }
        s.due("twenty", x.anew(), 20);
        s.due("none again", x.anew(), 0);
        s.due("the COPY is OPEN", x.open(2), 0);
        s.due("there is no TICK 3", x.open(3), -2);
        s.due("EVENTS told stay", x.count(3), 2);
        s.due("an act can be done", x.does(7, 0, 0, 0), 0);
        s.due("anew() at once", x.anew(), 1);
        s.due("another act at once", x.does(4, 0, 0, 0), 1);
        s.due("the COPY is OPEN", x.open(3), 0);
        s.of(55, "-2 likewise");
        s.withoutStore("anew()", -2, CopyWhileRun::anew);
    }

    private static void drawn() {
        s.of(56, "RUN drawn (IX) from a seed (0 .. 2,000,000,000), what 0: how many EVENTS are left out, "
                + "1: how many CELLS are DIRTY at the last TICK");
        // draws from 0: 0, 8, 8, 7; from 2,000,000,000: 4, 3, 1, 7
        CopyWhileRun x = Sentences.tell(HEAD + "set 0 1;set 1 1;set 2 1;set 3 1;");
        s.row("the least seed", 0, w -> x.drawn(0, w), 1, 3);
        s.row("the greatest seed", 0, w -> x.drawn(2000000000, w), 3, 1);
        s.row("no EVENTS", 0, w -> Sentences.tell(HEAD).drawn(5, w), 0, 0);
        s.row("odds 0", 0, w -> Sentences.tell(odds(0) + "fill 0 3 1;").drawn(0, w), 0, 4);
        s.row("odds 10", 0, w -> Sentences.tell(odds(10) + "fill 0 3 1;").drawn(1, w), 1, 0);
        CopyWhileRun all = Sentences.tell(odds(10) + "tear;".repeat(40));
        for (int i = 0; i < 20; i++) {
            all.does(3, 0, 3, i);
        }
        s.row("all of 60", 0, w -> all.drawn(7, w), 60, 0);
        s.of(56, "-2: there are none such, no STORE");
        s.all("drawn(., 0)", -2, k -> x.drawn(k, 0), -1, 2000000001, MOST, LEAST);
        s.all("drawn(., 1)", -2, k -> x.drawn(k, 1), -1, 2000000001, MOST, LEAST);
        s.all("drawn(0, .)", -2, w -> x.drawn(0, w), -1, 2, 3, MOST, LEAST);
        s.withoutStore("drawn(0, 0)", -2, y -> y.drawn(0, 0));
        s.withoutStore("drawn(0, 1)", -2, y -> y.drawn(0, 1));
    }

    private static void luck() {
        s.of(57, "Of n (1 .. 20) such from seeds, the seed and 1, .., in how many a CELL is DIRTY at the last TICK");
        // first draws from 0 on: 0 8 8 7 7 5 6 4 4 2 3 1 1 0 0 8 9 7 7 6
        CopyWhileRun x = Sentences.tell(HEAD + "set 0 1;");
        s.row("luck(0, ., 0)", 1, n -> x.luck(0, n, 0), 0, 1, 2, 3, 4, 5, 6, 6, 6, 6, 6, 6, 6, 6, 6, 7, 8, 9, 10, 11);
        // and from 2,000,000,000 on: 4 2 2 1 1 9 0 8 8 6 7 5 5 4 4 2 3 1 1 0
        s.row("luck(2000000000, ., 0)", 1, n -> x.luck(2000000000, n, 0),
                0, 0, 0, 0, 0, 1, 1, 2, 3, 4, 5, 6, 7, 7, 7, 7, 7, 7, 7, 7);
        s.due("never CHANGED", x.luck(0, 20, 1), 0);
        s.due("odds 0", Sentences.tell(odds(0) + "set 3 1;").luck(9, 20, 3), 20);
        s.due("odds 10", Sentences.tell(odds(10) + "set 3 1;").luck(9, 20, 3), 0);
        s.due("no EVENTS", Sentences.tell(HEAD).luck(0, 20, 0), 0);
        s.of(57, "-2: there are none such");
        s.all("luck(., 1, 0)", -2, k -> x.luck(k, 1, 0), -1, 2000000001, MOST, LEAST);
        s.all("luck(0, ., 0)", -2, n -> x.luck(0, n, 0), 0, -1, 21, 22, MOST, LEAST);
        s.all("luck(0, 1, .)", -2, c -> x.luck(0, 1, c), NO_CELLS);
        s.withoutStore("luck(0, 1, 0)", -2, y -> y.luck(0, 1, 0));
    }
}
