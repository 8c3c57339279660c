/** Promises 58 to 63, sentence by sentence: counts, images, and the rows of slots. */
public final class EdgesOfRowsTest {
    private static final int MOST = Integer.MAX_VALUE;
    private static final int LEAST = Integer.MIN_VALUE;
    private static final String HEAD = "store cells 4 law 0 odds 5;";
    private static final int[] NO_SLOTS = {-1, 4, 5, MOST, LEAST};
    private static final int[] NO_IMAGES = {-1, 3, 4, MOST, LEAST};
    private static Sentences s;

    public static void main(String[] args) throws Exception {
        s = new Sentences(58, 63);
        count();
        image();
        back();
        row();
        write();
        pastePut();
        pasteRefused();
        s.end();
    }

    private static void count() {
        s.of(58, "0 cells, 1 LAW, 2 odds, 3 EVENTS told, 4 acts, 5 LINES, 6 bytes of the TAPE, 7 SLOTS that have a row");
        CopyWhileRun x = new CopyWhileRun();
        s.row("a new object", 0, x::count, 0, 0, 0, 0, 0, 0, 0, 0);
        x.feed(0, 0, 0, 0, 0);
        x.end(7);
        x.row(3, 0, 0);
        s.row("no STORE", 0, x::count, 0, 0, 0, 0, 0, 0, 7, 1);
        x.end(0);
        Sentences.feedText(x, "store cells 32 law 3 odds 10;" + "tear;".repeat(40));
        x.store();
        for (int i = 0; i < 20; i++) {
            x.does(8, 0, 0, 0);
        }
        for (int i = 0; i < 35; i++) {
            x.feed(0, 0, 0, 0, 0);
        }
        for (int i = 0; i < 4; i++) {
            x.row(i, 3, 60);
        }
        s.row("the most", 0, x::count, 32, 3, 10, 40, 20, 41, 700, 4);
        CopyWhileRun least = Sentences.tell("store cells 2 law 0 odds 0;");
        s.row("the least", 0, least::count, 2, 0, 0, 0, 0, 1, 0, 0);
        least.row(1, 2, 0);
        s.due("a row of none is a row", least.count(7), 1);
        least.row(1, 2, -1);
        least.row(4, 2, 1);
        least.row(0, 4, 1);
        least.row(0, 0, 61);
        s.due("refused ones are none", least.count(7), 1);
        least.does(9, 0, 0, 0);
        s.due("an act refused by its numbers is none", least.count(4), 0);
        least.does(8, 0, 0, 0);
        s.due("an act that is REFUSED is one", least.count(4), 1);
        s.of(58, "NONE for others");
        s.all("count", -1, x::count, -1, 8, 9, MOST, LEAST);
        s.all("count, a new object", -1, k -> new CopyWhileRun().count(k), -1, 8, 9, MOST, LEAST);
    }

    private static void image() {
        s.of(59, "IMAGE k (0 .. 2) keeps the STORE, and acts: 0");
        CopyWhileRun x = new CopyWhileRun();
        s.row("no STORE", 0, x::image, 0, 0, 0);
        Sentences.feedText(x, HEAD + "set 0 1;full;");
        x.store();
        x.does(0, 0, 2, 0);
        s.due("image(2)", x.image(2), 0);
        x.does(0, 0, 3, 0);
        s.due("image(0)", x.image(0), 0);
        s.due("nothing else happens", x.count(4), 2);
        x.anew();
        x.back(2);
        s.row("count of 2", 0, x::count, 4, 0, 5, 2, 1, 3);
        s.due("value(0, 3)", x.value(0, 3), 2);
        s.due("the COPY", x.kept(0, 0), 1);
        s.due("there is no TICK 4", x.value(0, 4), -2);
        x.back(0);
        s.due("value(0, 4)", x.value(0, 4), 3);
        x.back(1);
        s.due("no STORE was kept", x.count(5), 0);
        s.due("image(2), in place of another", x.image(2), 0);
        x.back(0);
        x.back(2);
        s.due("no STORE now", x.count(5), 0);
        s.of(59, "-2: no such k");
        s.all("image", -2, x::image, NO_IMAGES);
        s.all("image, a new object", -2, k -> new CopyWhileRun().image(k), NO_IMAGES);
    }

    private static void back() {
        s.of(60, "It is as IMAGE k has it: 0");
        CopyWhileRun x = Sentences.tell(HEAD + "set 0 1;");
        x.does(4, 0, 0, 0);
        x.image(1);
        x.does(7, 0, 0, 0);
        Sentences.feedText(x, "store cells 2 law 3 odds 0;#");
        Sentences.fill(x, 0, 1, 1, 0, 1);
        s.due("back(1)", x.back(1), 0);
        s.due("acts", x.count(4), 1);
        s.due("the COPY is OPEN", x.copy(0, 2), 0);
        s.due("the tape stays", x.count(6), 28);
        s.due("the slots stay", x.plain(0), 1);
        s.due("back(1) again", x.back(1), 0);
        s.due("undo()", x.undo(), 0);
        s.due("back(1), the image has its act", x.back(1), 0);
        s.due("acts", x.count(4), 1);
        x.end(27);
        x.store();
        s.due("another STORE", x.count(0), 2);
        s.due("back(1), the STORE of the image", x.back(1), 0);
        s.row("count", 0, x::count, 4, 0, 5, 1, 1, 2);
        for (int i = 0; i < 19; i++) {
            x.does(8, 0, 0, 0);
        }
        s.due("acts go on from there", x.does(8, 0, 0, 0), -5);
        x.image(2);
        x.back(1);
        x.back(2);
        s.due("twenty acts are kept", x.count(4), 20);
        CopyWhileRun y = Sentences.tell(HEAD + "tear;".repeat(40));
        y.image(0);
        for (int i = 0; i < 20; i++) {
            y.does(3, 1, 2, 20 + i);
        }
        y.image(1);
        y.anew();
        for (int i = 0; i < 20; i++) {
            y.does(3, 0, 3, 40 + i);
        }
        s.due("back to twenty behind forty", y.back(1), 0);
        s.row("value(1)", 40, t -> y.value(1, t), 0, 20, 21);
        s.row("value(0)", 40, t -> y.value(0, t), 0, 0, 0);
        s.due("value(2, 60)", y.value(2, 60), 39);
        s.row("the last act", 0, w -> y.event(59, w), 3, 1, 2, 39);
        s.due("back to none", y.back(0), 0);
        s.due("an act at once", y.does(4, 0, 0, 0), 0);
        s.due("it is done", y.open(41), 0);
        s.due("back to none", y.back(0), 0);
        s.due("another act at once", y.does(8, 0, 0, 0), 2);
        s.due("it is REFUSED", y.refused(40), 2);
        s.of(60, "-2: no such k");
        s.all("back", -2, x::back, NO_IMAGES);
        s.all("back, a new object", -2, k -> new CopyWhileRun().back(k), NO_IMAGES);
        s.of(60, "-6: it has nothing");
        s.due("image 0 was never made", x.back(0), -6);
        s.due("all stays", x.count(4), 20);
        s.row("a new object", 0, k -> new CopyWhileRun().back(k), -6, -6, -6);
        CopyWhileRun z = Sentences.tell(HEAD);
        z.image(3);
        z.image(-1);
        s.row("refused ones", 0, z::back, -6, -6, -6);
        s.due("the STORE stays", z.count(5), 1);
    }

    /** Whether a number of a slot's row is v: told by an act, it is what cell 0 has at tick 1. */
    private static boolean isThere(CopyWhileRun x, int slot, int width, int i, int v) {
        x.anew();
        x.does(0, 0, v, 0);
        x.row(3, width, 3);
        x.write(3, 0, 1);
        x.write(3, 1, 0);
        return x.paste(slot, i, 3, 2, 1) == 0 && x.plain(3) == 1;
    }

    private static void thereAre(CopyWhileRun x, int slot, int width, int... numbers) {
        for (int i = 0; i < numbers.length; i++) {
            s.due("number " + i + " is " + numbers[i], isThere(x, slot, width, i, numbers[i]) ? 1 : 0, 1);
        }
        s.due("there are no more", x.write(slot, numbers.length, 0), -7);
    }

    private static void row() {
        s.of(61, "A SLOT (0 .. 3) has a row of n numbers of a WIDTH, all 0 (in place of another one): 0");
        CopyWhileRun x = Sentences.tell(HEAD);
        for (int slot = 0; slot <= 3; slot++) {
            for (int width = 0; width <= 3; width++) {
                s.due("row of none", x.row(slot, width, 0), 0);
                s.due("it has no number", x.write(slot, 0, 1), -7);
                s.due("row of one", x.row(slot, width, 1), 0);
                s.due("it has one", x.write(slot, 0, 1), 0);
                s.due("row of 60", x.row(slot, width, 60), 0);
                s.due("it has 60", x.write(slot, 59, 1), 0);
                s.due("it has no more", x.write(slot, 60, 1), -7);
            }
        }
        Sentences.fill(x, 0, 2, 7, 8, 9);
        thereAre(x, 0, 2, 7, 8, 9);
        s.due("in place of another one", x.row(0, 1, 2), 0);
        thereAre(x, 0, 1, 0, 0);
        s.due("longer again", x.row(0, 1, 4), 0);
        thereAre(x, 0, 1, 0, 0, 0, 0);
        s.of(61, "-2: there is no such SLOT or WIDTH (0 .. 3), or n is above 60");
        CopyWhileRun y = Sentences.tell(HEAD);
        Sentences.fill(y, 0, 0, 5);
        s.all("row of no slot", -2, i -> y.row(i, 0, 1), NO_SLOTS);
        s.all("row of no width", -2, w -> y.row(0, w, 1), -1, 4, 5, MOST, LEAST);
        s.all("row of too many", -2, n -> y.row(0, 0, n), 61, 62, 700, MOST);
        s.due("no slot, n below 0", y.row(4, 0, -1), -2);
        s.due("no width, n below 0", y.row(0, 4, -1), -2);
        s.due("the slot stays", isThere(y, 0, 0, 0, 5) ? 1 : 0, 1);
        s.of(61, "-3, and the SLOT stays: n is below 0");
        s.all("row", -3, n -> y.row(0, 0, n), -1, -2, -60, LEAST);
        s.all("row of another width", -3, n -> y.row(0, 3, n), -1, LEAST);
        thereAre(y, 0, 0, 5);
        s.due("nothing stays nothing", y.row(1, 0, -1), -3);
        s.due("write", y.write(1, 0, 1), -6);
    }

    private static void write() {
        s.of(62, "Number i of the SLOT's row is v, cut to its WIDTH: 0");
        CopyWhileRun x = Sentences.tell(HEAD);
        long[] cuts = {256L, 65536L, 4294967296L};
        for (int width = 0; width <= 2; width++) {
            x.row(0, width, 2);
            s.due("the first", x.write(0, 0, cuts[width] + 7), 0);
            s.due("the last", x.write(0, 1, 127 - cuts[width]), 0);
            thereAre(x, 0, width, 7, 127);
            s.due("the lowest", x.write(0, 0, Long.MIN_VALUE), 0);
            s.due("write again", x.write(0, 1, 3), 0);
            thereAre(x, 0, width, 0, 3);
        }
        x.row(0, 3, 3);
        x.write(0, 0, 4294967296L);
        s.due("eight bytes are not cut", x.plain(0), -2);
        x.write(0, 0, 0);
        s.due("written again", x.plain(0), 1);
        x.row(0, 1, 3);
        x.write(0, 2, 256);
        s.due("two bytes hold 256", x.plain(0), -2);
        x.write(0, 2, 255);
        s.due("and 255", x.plain(0), 0);
        x.row(0, 2, 3);
        x.write(0, 2, 65536);
        s.due("four bytes hold 65536", x.plain(0), -2);
        x.row(0, 0, 3);
        x.write(0, 2, 127);
        s.due("a byte holds 127", x.plain(0), 0);
        x.write(0, 2, 128);
        s.due("128 of a byte is below 0", x.plain(0), -2);
        s.of(62, "-2: there is no such SLOT");
        s.all("write", -2, i -> x.write(i, 0, 1), NO_SLOTS);
        s.all("write of no number", -2, i -> x.write(i, -1, 1), NO_SLOTS);
        s.of(62, "-6: it has nothing");
        CopyWhileRun y = new CopyWhileRun();
        s.row("write", 0, i -> y.write(i, 0, 1), -6, -6, -6, -6);
        s.row("write of no number", 0, i -> y.write(i, -1, 1), -6, -6, -6, -6);
        s.of(62, "-7: there is no such number");
        Sentences.fill(x, 0, 0, 4, 5);
        s.all("write", -7, i -> x.write(0, i, 9), -1, 2, 3, 59, 60, MOST, LEAST);
        thereAre(x, 0, 0, 4, 5);
        x.row(0, 0, 0);
        s.all("write to a row of none", -7, i -> x.write(0, i, 9), 0, -1, 1);
    }

    private static void pastePut() {
        s.of(63, "So many numbers of a SLOT's row, from one on, are put to another one's (or its own), from one on, "
                + "as they were: 0");
        for (int width = 0; width <= 3; width++) {
            CopyWhileRun y = Sentences.tell(HEAD);
            Sentences.fill(y, 0, width, 1, 2, 3, 4);
            Sentences.fill(y, 1, width, 11, 12, 13);
            s.due("the last two to the first", y.paste(0, 2, 1, 0, 2), 0);
            thereAre(y, 1, width, 3, 4, 13);
            s.due("all of a row", y.paste(1, 0, 0, 1, 3), 0);
            thereAre(y, 0, width, 1, 3, 4, 13);
            thereAre(y, 1, width, 3, 4, 13);
        }
        CopyWhileRun x = Sentences.tell(HEAD);
        Sentences.fill(x, 0, 1, 1, 2, 3, 4, 5);
        s.due("its own, behind", x.paste(0, 0, 0, 1, 4), 0);
        thereAre(x, 0, 1, 1, 1, 2, 3, 4);
        s.due("its own, ahead", x.paste(0, 1, 0, 0, 4), 0);
        thereAre(x, 0, 1, 1, 2, 3, 4, 4);
        s.due("its own, onto itself", x.paste(0, 0, 0, 0, 5), 0);
        thereAre(x, 0, 1, 1, 2, 3, 4, 4);
        s.due("none", x.paste(0, 0, 0, 3, 0), 0);
        s.due("none, at the ends", x.paste(0, 5, 0, 5, 0), 0);
        thereAre(x, 0, 1, 1, 2, 3, 4, 4);
        x.row(2, 1, 0);
        s.due("none of a row of none", x.paste(2, 0, 0, 5, 0), 0);
        s.due("none to a row of none", x.paste(0, 5, 2, 0, 0), 0);
        x.row(0, 1, 60);
        x.row(1, 1, 60);
        x.write(0, 59, 9);
        s.due("60", x.paste(0, 0, 1, 0, 60), 0);
        s.due("the last of 60", isThere(x, 1, 1, 59, 9) ? 1 : 0, 1);
    }

    private static void pasteRefused() {
        CopyWhileRun x = Sentences.tell(HEAD);
        Sentences.fill(x, 0, 1, 1, 2, 3, 4);
        Sentences.fill(x, 1, 1, 11, 12, 13);
        Sentences.fill(x, 3, 2, 21);
        s.of(63, "-2: there is no such SLOT");
        s.all("paste from", -2, i -> x.paste(i, 0, 0, 0, 1), NO_SLOTS);
        s.all("paste to", -2, i -> x.paste(0, 0, i, 0, 1), NO_SLOTS);
        s.all("paste from, the other has nothing", -2, i -> x.paste(i, 0, 2, 0, 1), NO_SLOTS);
        s.all("paste to, the first has nothing", -2, i -> x.paste(2, 0, i, 0, 1), NO_SLOTS);
        s.of(63, "-6: one has nothing");
        s.due("the first", x.paste(2, 0, 0, 0, 1), -6);
        s.due("the other", x.paste(0, 0, 2, 0, 1), -6);
        s.due("its own", x.paste(2, 0, 2, 0, 0), -6);
        s.due("and a place below 0", x.paste(0, -1, 2, 0, 1), -6);
        s.of(63, "-8: they are not of one WIDTH");
        s.due("from 2 to 4 bytes", x.paste(0, 0, 3, 0, 1), -8);
        s.due("from 4 to 2 bytes", x.paste(3, 0, 0, 0, 1), -8);
        s.due("none of them", x.paste(0, 0, 3, 0, 0), -8);
        s.due("and a place below 0", x.paste(0, -1, 3, 0, 1), -8);
        s.due("and too many", x.paste(0, 0, 3, 0, 9), -8);
        s.of(63, "-7, and nothing happens: some are beyond their rows, or a place or n is below 0");
        s.all("paste from", -7, i -> x.paste(0, i, 1, 0, 1), -1, 4, 5, MOST, LEAST);
        s.all("paste to", -7, i -> x.paste(0, 0, 1, i, 1), -1, 3, 4, MOST, LEAST);
        s.all("paste of", -7, n -> x.paste(0, 0, 1, 0, n), -1, 4, 5, MOST, LEAST);
        s.due("one beyond the first", x.paste(0, 2, 1, 0, 3), -7);
        s.due("one beyond the other", x.paste(0, 0, 1, 1, 3), -7);
        s.due("one beyond its own", x.paste(0, 0, 0, 1, 4), -7);
        s.due("so many that the sum wraps around", x.paste(0, 1, 1, 0, MOST), -7);
        s.due("so far that the sum wraps around", x.paste(0, MOST, 1, MOST, MOST), -7);
        s.due("none from below 0", x.paste(0, -1, 1, 0, 0), -7);
        s.due("none to below 0", x.paste(0, 0, 1, -1, 0), -7);
        s.due("none from beyond the end", x.paste(0, 5, 1, 0, 0), -7);
        s.due("none to beyond the end", x.paste(0, 0, 1, 4, 0), -7);
        thereAre(x, 0, 1, 1, 2, 3, 4);
        thereAre(x, 1, 1, 11, 12, 13);
    }
}
