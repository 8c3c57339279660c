import java.util.Arrays;

/** Copies made while commands run; the document's promises are told by their numbers. */
public final class CopyWhileRun {
    public static final int NONE = -1;

    private static final int NOT_SUCH = -2;
    private static final int BELOW_ZERO = -3;
    private static final int FAULTY = -4;
    private static final int EXHAUSTED = -5;
    private static final int NOTHING = -6;
    private static final int BEYOND = -7;
    private static final int UNLIKE = -8;
    private static final int NO_AMOUNT = -1000;

    private static final int MOST_BYTES = 700;
    private static final int MOST_CELLS = 32;
    private static final int MOST_TOLD = 40;
    private static final int MOST_ACTS = 20;
    private static final int MOST_EVENTS = 60;
    // A copy ends by an event of its own ahead of the next one's beginning.
    private static final int MOST_COPIES = 30;
    private static final int MOST_NUMBERS = 60;
    private static final int MOST_IMAGES = 3;
    private static final int MOST_SLOTS = 4;
    private static final int MOST_PACE = 20;
    private static final int MOST_SEED = 2000000000;
    private static final int MOST_CHANCES = 6;
    private static final int LAST_LEVEL = 5;
    private static final int LAST_LAW = 3;
    private static final int LAST_ODDS = 10;
    private static final int LAST_VALUE = 255;
    private static final int LAST_WIDTH = 3;
    private static final int PLAYERS = 8;
    private static final int LEFT_OUT_PRICE = 3;

    private static final int SET = 0;
    private static final int ADD = 1;
    private static final int SWAP = 2;
    private static final int FILL = 3;
    private static final int FULL = 4;
    private static final int PART = 5;
    private static final int SCAN = 6;
    private static final int FINISH = 7;
    private static final int TEAR = 8;
    private static final int KINDS = 9;

    private static final int IS_OPEN = 0;
    private static final int IS_WHOLE = 1;
    private static final int IS_TORN = 2;

    private static final int EVEN_CELLS = 0x55555555;
    private static final int[] NUMBERS_OF_KIND = {2, 2, 2, 3, 0, 0, 1, 0, 0};

    private final Reader reader = new Reader();
    private final Script script = new Script();
    private final Script spare = new Script();
    private final Script[] images = new Script[MOST_IMAGES];
    private final Slot[] slots = new Slot[MOST_SLOTS];
    // As told, with acts, up to some tick; a trial is played with events left out, or by another law.
    private final Run run = new Run();
    private final Run trial = new Run();
    private final Board board = new Board();
    private final Board beside = new Board();
    private final int[] worths = new int[1 << PLAYERS];
    private final int[] outcomes = new int[4];

    /** Promise 1. */
    public CopyWhileRun() {
        for (int i = 0; i < MOST_IMAGES; i++) {
            images[i] = new Script();
        }
        for (int i = 0; i < MOST_SLOTS; i++) {
            slots[i] = new Slot();
        }
    }

    // ---- the tape and the store: promises 2 to 7

    public int feed(int a, int b, int c, int d, int e) {
        if (!reader.hasRoom(20)) {
            return NONE;
        }
        reader.take(a);
        reader.take(b);
        reader.take(c);
        reader.take(d);
        reader.take(e);
        return reader.length;
    }

    public int end(int n) {
        if (n < 0 || n > reader.length) {
            return NONE;
        }
        reader.length = n;
        return n;
    }

    public int store() {
        boolean right = reader.read(spare);
        reader.length = 0;
        if (!right) {
            return FAULTY;
        }
        script.become(spare);
        playAnew();
        return script.lines();
    }

    public int fault(int what) {
        if (what == 0) {
            return reader.wrong;
        }
        return what == 1 ? reader.place : NONE;
    }

    public int event(int event, int what) {
        if (!hasEvent(event) || what < 0 || what > 3) {
            return NOT_SUCH;
        }
        return what == 0 ? script.kindOf(event) : script.numberOf(event, what - 1);
    }

    public int refused(int event) {
        if (!hasEvent(event)) {
            return NOT_SUCH;
        }
        playTo(event + 1);
        return run.reason;
    }

    // ---- cells at a tick: promises 8 to 16

    public int value(int cell, int tick) {
        if (!hasCell(cell) || !hasTick(tick)) {
            return NOT_SUCH;
        }
        playTo(tick);
        return run.now.cellAt(cell);
    }

    public int sum(int tick) {
        if (!hasTick(tick)) {
            return NOT_SUCH;
        }
        playTo(tick);
        return run.now.total();
    }

    public int changes(int event) {
        if (!hasEvent(event)) {
            return NOT_SUCH;
        }
        playTo(event + 1);
        return Integer.bitCount(run.changed);
    }

    public int latest(int cell, int tick) {
        if (!hasCell(cell) || !hasTick(tick)) {
            return NOT_SUCH;
        }
        playTo(tick);
        return run.latestChange(cell);
    }

    public int dirty(int cell, int tick) {
        if (!hasCell(cell) || !hasTick(tick)) {
            return NOT_SUCH;
        }
        playTo(tick);
        return holds(run.dirtyCells, cell) ? 1 : 0;
    }

    public int dirties(int tick) {
        if (!hasTick(tick)) {
            return NOT_SUCH;
        }
        playTo(tick);
        return Integer.bitCount(run.dirtyCells);
    }

    public int region(int level, int i, int tick) {
        if (!hasTick(tick) || !hasLevel(level) || i < 0 || i >= MOST_CELLS >> level) {
            return NOT_SUCH;
        }
        playTo(tick);
        return (run.dirtyCells & regionCells(level, i)) != 0 ? 1 : 0;
    }

    public int regions(int level, int tick) {
        if (!hasTick(tick) || !hasLevel(level)) {
            return NOT_SUCH;
        }
        playTo(tick);
        return dirtyRegions(level, run.dirtyCells);
    }

    public int looks(int tick) {
        if (!hasTick(tick)) {
            return NOT_SUCH;
        }
        playTo(tick);
        int looked = 1;
        for (int level = 1; level <= LAST_LEVEL; level++) {
            looked += 2 * dirtyRegions(level, run.dirtyCells);
        }
        return looked;
    }

    // ---- copies: promises 17 to 26

    public int copies(int tick) {
        if (!hasTick(tick)) {
            return NOT_SUCH;
        }
        playTo(tick);
        return run.begun;
    }

    public int open(int tick) {
        if (!hasTick(tick)) {
            return NOT_SUCH;
        }
        playTo(tick);
        return run.openCopy;
    }

    public int copy(int copy, int what) {
        Copy one = copyAtLast(copy);
        if (one == null || what < 0 || what > 6) {
            return NOT_SUCH;
        }
        switch (what) {
            case 0:
                return one.full ? 1 : 0;
            case 1:
                return one.mark;
            case 2:
                return one.state;
            case 3:
                return Integer.bitCount(one.wanted);
            case 4:
                return one.size;
            case 5:
                return Integer.bitCount(one.rescued);
            default:
                return one.ended;
        }
    }

    public int kept(int copy, int cell) {
        Copy one = copyAtLast(copy);
        if (one == null || !hasCell(cell)) {
            return NOT_SUCH;
        }
        return one.state != IS_TORN && holds(one.held, cell) ? one.contentOf(cell) : NONE;
    }

    public int saved(int copy, int cell) {
        Copy one = copyAtLast(copy);
        if (one == null || !hasCell(cell)) {
            return NOT_SUCH;
        }
        return holds(one.rescued, cell) ? 1 : 0;
    }

    public int order(int copy, int i) {
        Copy one = copyAtLast(copy);
        if (one == null || i < 0) {
            return NOT_SUCH;
        }
        return one.cellInTurn(i);
    }

    public int waiting(int tick) {
        if (!hasTick(tick)) {
            return NOT_SUCH;
        }
        playTo(tick);
        Copy one = run.copyOf(run.openCopy);
        return one == null ? NONE : Integer.bitCount(one.missing());
    }

    public int saves(int event) {
        if (!hasEvent(event)) {
            return NOT_SUCH;
        }
        playTo(event + 1);
        return Integer.bitCount(run.rescuedNow);
    }

    public int work(int tick) {
        if (!hasTick(tick)) {
            return NOT_SUCH;
        }
        playTo(tick);
        return run.sizes(IS_OPEN) + run.sizes(IS_WHOLE) + run.sizes(IS_TORN);
    }

    public int wasted(int tick) {
        if (!hasTick(tick)) {
            return NOT_SUCH;
        }
        playTo(tick);
        return run.sizes(IS_TORN);
    }

    // ---- the chain: promises 27 to 35

    public int chain(int tick) {
        if (!hasTick(tick)) {
            return NOT_SUCH;
        }
        playTo(tick);
        return run.links();
    }

    public int linked(int tick, int i) {
        if (!hasTick(tick) || i < 0) {
            return NOT_SUCH;
        }
        playTo(tick);
        return run.link(i);
    }

    public int replays(int tick) {
        if (!hasTick(tick)) {
            return NOT_SUCH;
        }
        playTo(tick);
        int replayed = 0;
        for (int i = run.chainMark(); i < tick; i++) {
            if (script.isCommand(i)) {
                replayed++;
            }
        }
        return replayed;
    }

    public int raised(int cell, int tick) {
        if (!hasCell(cell) || !hasTick(tick)) {
            return NOT_SUCH;
        }
        playTo(tick);
        return run.raisedCell(cell);
    }

    public int restored(int cell, int tick) {
        if (!hasCell(cell) || !hasTick(tick)) {
            return NOT_SUCH;
        }
        playTo(tick);
        board.clear(script.cells);
        for (int i = 0; i < script.cells; i++) {
            board.put(i, run.raisedCell(i));
        }
        for (int i = run.chainMark(); i < tick; i++) {
            board.apply(script, i);
        }
        return board.cellAt(cell);
    }

    public int doubled(int tick) {
        if (!hasTick(tick)) {
            return NOT_SUCH;
        }
        playTo(tick);
        return run.keptAgain();
    }

    public int source(int cell, int tick) {
        if (!hasCell(cell) || !hasTick(tick)) {
            return NOT_SUCH;
        }
        playTo(tick);
        return run.sourceOf(cell);
    }

    public int age(int tick) {
        if (!hasTick(tick)) {
            return NOT_SUCH;
        }
        playTo(tick);
        return tick - run.chainMark();
    }

    public int worst() {
        if (!script.exists()) {
            return NOT_SUCH;
        }
        int found = 0;
        int most = 0;
        playAnew();
        for (int tick = 1; tick <= script.size(); tick++) {
            playTo(tick);
            int now = tick - run.chainMark();
            if (now > most) {
                most = now;
                found = tick;
            }
        }
        return found;
    }

    // ---- ticks side by side, and the pace: promises 36 to 39

    public int differ(int tick, int other) {
        if (!hasTick(tick) || !hasTick(other)) {
            return NOT_SUCH;
        }
        board.play(script, tick, 0L);
        beside.play(script, other, 0L);
        return board.unlike(beside);
    }

    public int same(int tick) {
        if (!hasTick(tick)) {
            return NOT_SUCH;
        }
        board.play(script, tick, 0L);
        beside.clear(script.cells);
        for (int i = 0; i < tick; i++) {
            if (beside.unlike(board) == 0) {
                return i;
            }
            beside.apply(script, i);
        }
        return tick;
    }

    public int pace(int e) {
        if (!script.exists() || e < 1 || e > MOST_PACE) {
            return NOT_SUCH;
        }
        return keptByPace(e);
    }

    public int best() {
        if (!script.exists()) {
            return NOT_SUCH;
        }
        int commands = script.commands();
        int found = 1;
        int least = 0;
        for (int e = 1; e <= MOST_PACE; e++) {
            int replayed = commands == 0 ? 0 : (commands - 1) % e + 1;
            int cost = keptByPace(e) + 2 * replayed;
            if (e == 1 || cost < least) {
                least = cost;
                found = e;
            }
        }
        return found;
    }

    private int keptByPace(int e) {
        int kept = 0;
        int commands = 0;
        int dirtyNow = 0;
        board.clear(script.cells);
        for (int i = 0; i < script.size(); i++) {
            if (!script.isCommand(i)) {
                continue;
            }
            if (commands == 0) {
                kept = script.cells;
            } else if (e > 0 && commands % e == 0) {
                kept += Integer.bitCount(dirtyNow);
                dirtyNow = 0;
            }
            dirtyNow |= board.apply(script, i);
            commands++;
        }
        return kept;
    }

    // ---- events left out: promises 40 to 46

    public int blame() {
        if (!script.exists()) {
            return NOT_SUCH;
        }
        board.play(script, script.size(), 0L);
        int most = board.zeros();
        int found = NONE;
        for (int i = 0; i < script.told; i++) {
            board.play(script, script.size(), 1L << i);
            if (board.zeros() > most) {
                most = board.zeros();
                found = i;
            }
        }
        return found;
    }

    public int idle() {
        if (!script.exists()) {
            return NOT_SUCH;
        }
        beside.play(script, script.size(), 0L);
        for (int i = 0; i < script.told; i++) {
            if (script.isCommand(i)) {
                board.play(script, script.size(), 1L << i);
                if (board.unlike(beside) == 0) {
                    return i;
                }
            }
        }
        return NONE;
    }

    public int may(int slot) {
        int refusal = seenRefusal(slot);
        if (refusal != 0) {
            return refusal;
        }
        int able = 0;
        for (int i = 0; i < script.told; i++) {
            if (isAsSeen(slots[slot], 1L << i)) {
                able++;
            }
        }
        return able;
    }

    public int which(int slot) {
        int refusal = seenRefusal(slot);
        if (refusal != 0) {
            return refusal;
        }
        for (int i = 0; i < script.told; i++) {
            if (isAsSeen(slots[slot], 1L << i)) {
                return i;
            }
        }
        return NONE;
    }

    public int plain(int slot) {
        int refusal = seenRefusal(slot);
        if (refusal != 0) {
            return refusal;
        }
        return isAsSeen(slots[slot], 0L) ? 1 : 0;
    }

    private int seenRefusal(int slot) {
        if (!hasSlot(slot) || !script.exists()) {
            return NOT_SUCH;
        }
        Slot seen = slots[slot];
        if (!seen.there) {
            return NOTHING;
        }
        if (seen.length % 3 != 0) {
            return NOT_SUCH;
        }
        for (int i = 0; i + 2 < seen.length; i += 3) {
            boolean such = isUpTo(seen.numberAt(i), script.size())
                    && isUpTo(seen.numberAt(i + 1), script.cells - 1)
                    && isUpTo(seen.numberAt(i + 2), LAST_VALUE);
            if (!such) {
                return NOT_SUCH;
            }
        }
        return 0;
    }

    private boolean isAsSeen(Slot seen, long out) {
        board.clear(script.cells);
        for (int tick = 0; tick <= script.size(); tick++) {
            for (int i = 0; i + 2 < seen.length; i += 3) {
                if (seen.numberAt(i) == tick
                        && board.cellAt((int) seen.numberAt(i + 1)) != seen.numberAt(i + 2)) {
                    return false;
                }
            }
            if (tick < script.size() && !isOut(out, tick)) {
                board.apply(script, tick);
            }
        }
        return true;
    }

    public int by(int law) {
        if (!script.exists() || law < 0 || law > LAST_LAW) {
            return NOT_SUCH;
        }
        return rescuedByLaw(law);
    }

    public int law() {
        if (!script.exists()) {
            return NOT_SUCH;
        }
        int found = 0;
        int least = rescuedByLaw(0);
        for (int i = 1; i <= LAST_LAW; i++) {
            int now = rescuedByLaw(i);
            if (now < least) {
                least = now;
                found = i;
            }
        }
        return found;
    }

    private int rescuedByLaw(int law) {
        trial.play(script, law, 0L);
        return trial.allRescued();
    }

    // ---- shares and the game: promises 47 to 50

    public int worth(int set) {
        if (!script.exists() || set < 0 || set >= 1 << PLAYERS) {
            return NOT_SUCH;
        }
        return worthOf(set, players());
    }

    public int share(int event, int what) {
        if (event < 0 || event >= PLAYERS || !isTold(event) || !script.isCommand(event)
                || what < 0 || what > 1) {
            return NO_AMOUNT;
        }
        int all = players();
        fillWorths(all);
        int most = Integer.bitCount(all);
        int one = 1 << event;
        long above = 0L;
        for (int set = 0; set < 1 << PLAYERS; set++) {
            if ((set & ~all) == 0 && (set & one) == 0) {
                int come = Integer.bitCount(set);
                above += factorial(come) * factorial(most - 1 - come)
                        * (worths[set | one] - worths[set]);
            }
        }
        return (int) lowest(above, factorial(most), what);
    }

    private void fillWorths(int all) {
        for (int set = 0; set < 1 << PLAYERS; set++) {
            if ((set & ~all) == 0) {
                worths[set] = worthOf(set, all);
            }
        }
    }

    private int players() {
        int found = 0;
        for (int i = 0; i < PLAYERS && i < script.told; i++) {
            if (script.isCommand(i)) {
                found |= 1 << i;
            }
        }
        return found;
    }

    private int worthOf(int set, int all) {
        board.play(script, script.size(), all & ~set);
        return script.cells - board.zeros();
    }

    public int rests(int event, int other) {
        if (!isTold(event) || !isTold(other) || event == other) {
            return NOT_SUCH;
        }
        for (int pair = 0; pair < 4; pair++) {
            outcomes[pair] = wholeWithout(event, other, pair & 1, pair >> 1);
        }
        int found = 0;
        for (int pair = 0; pair < 4; pair++) {
            int x = pair & 1;
            int y = pair >> 1;
            int moreForFirst = outcomes[pair ^ 1] - outcomes[pair] - LEFT_OUT_PRICE * (1 - 2 * x);
            int moreForOther = outcomes[pair ^ 2] - outcomes[pair] - LEFT_OUT_PRICE * (1 - 2 * y);
            if (moreForFirst <= 0 && moreForOther <= 0) {
                found |= 1 << pair;
            }
        }
        return found;
    }

    public int gets(int event, int other, int x, int y) {
        if (!isTold(event) || !isTold(other) || event == other
                || x < 0 || x > 1 || y < 0 || y > 1) {
            return NO_AMOUNT;
        }
        return wholeWithout(event, other, x, y) - LEFT_OUT_PRICE * x;
    }

    private int wholeWithout(int event, int other, int x, int y) {
        trial.play(script, script.scanLaw, (long) x << event | (long) y << other);
        return trial.sizes(IS_WHOLE);
    }

    // ---- chance: promises 51 and 52

    public long chance(int cell, int k, int what) {
        if (!hasCell(cell) || !hasChances(k) || what < 0 || what > 1) {
            return NOT_SUCH;
        }
        return lowest(weighedDirties(k, 1 << cell), power(10, k), what);
    }

    public long mean(int k, int what) {
        if (!hasChances(k) || what < 0 || what > 1) {
            return NOT_SUCH;
        }
        return lowest(weighedDirties(k, -1), power(10, k), what);
    }

    private boolean hasChances(int k) {
        return script.exists() && k >= 0 && k <= MOST_CHANCES && k <= script.size();
    }

    private long weighedDirties(int k, int asked) {
        long above = 0L;
        for (int set = 0; set < 1 << k; set++) {
            int gone = Integer.bitCount(set);
            long weight = power(script.odds, gone) * power(10 - script.odds, k - gone);
            if (weight != 0L) {
                trial.play(script, script.scanLaw, (long) set << script.size() - k);
                above += weight * Integer.bitCount(trial.dirtyCells & asked);
            }
        }
        return above;
    }

    // ---- acts: promises 53 to 55

    public int does(int kind, int a, int b, int c) {
        if (!script.exists() || kind < 0 || kind >= KINDS || !areNumbersOf(kind, a, b, c)) {
            return NOT_SUCH;
        }
        if (script.acts >= MOST_ACTS) {
            return EXHAUSTED;
        }
        script.putEvent(kind, a, b, c);
        script.acts++;
        playTo(script.size());
        return run.reason;
    }

    private boolean areNumbersOf(int kind, int a, int b, int c) {
        int has = NUMBERS_OF_KIND[kind];
        boolean first = has > 0 ? fits(script.cells, kind, 0, a, a) : a == 0;
        boolean second = has > 1 ? fits(script.cells, kind, 1, b, a) : b == 0;
        boolean third = has > 2 ? fits(script.cells, kind, 2, c, a) : c == 0;
        return first && second && third;
    }

    public int undo() {
        if (!script.exists()) {
            return NOT_SUCH;
        }
        if (script.acts == 0) {
            return EXHAUSTED;
        }
        script.acts--;
        playAnew();
        return script.acts;
    }

    public int anew() {
        if (!script.exists()) {
            return NOT_SUCH;
        }
        int were = script.acts;
        script.acts = 0;
        playAnew();
        return were;
    }

    // ---- runs drawn: promises 56 and 57

    public int drawn(int seed, int what) {
        if (!script.exists() || !isSeed(seed) || what < 0 || what > 1) {
            return NOT_SUCH;
        }
        long out = drawOut(seed);
        if (what == 0) {
            return Long.bitCount(out);
        }
        trial.play(script, script.scanLaw, out);
        return Integer.bitCount(trial.dirtyCells);
    }

    public int luck(int seed, int n, int cell) {
        if (!hasCell(cell) || !isSeed(seed) || n < 1 || n > 20) {
            return NOT_SUCH;
        }
        int found = 0;
        for (int i = 0; i < n; i++) {
            trial.play(script, script.scanLaw, drawOut((long) seed + i));
            if (holds(trial.dirtyCells, cell)) {
                found++;
            }
        }
        return found;
    }

    private long drawOut(long seed) {
        long out = 0L;
        long x = seed;
        for (int i = 0; i < script.size(); i++) {
            x = (1103515245L * x + 12345L) % 2147483648L;
            if (x / 65536L % 10L < script.odds) {
                out |= 1L << i;
            }
        }
        return out;
    }

    // ---- counts, images and rows: promises 58 to 63

    public int count(int what) {
        switch (what) {
            case 0:
                return script.cells;
            case 1:
                return script.scanLaw;
            case 2:
                return script.odds;
            case 3:
                return script.told;
            case 4:
                return script.acts;
            case 5:
                return script.lines();
            case 6:
                return reader.length;
            case 7:
                return slotsThere();
            default:
                return NONE;
        }
    }

    private int slotsThere() {
        int found = 0;
        for (int i = 0; i < MOST_SLOTS; i++) {
            if (slots[i].there) {
                found++;
            }
        }
        return found;
    }

    public int image(int k) {
        if (k < 0 || k >= MOST_IMAGES) {
            return NOT_SUCH;
        }
        images[k].become(script);
        images[k].taken = true;
        return 0;
    }

    public int back(int k) {
        if (k < 0 || k >= MOST_IMAGES) {
            return NOT_SUCH;
        }
        if (!images[k].taken) {
            return NOTHING;
        }
        script.become(images[k]);
        playAnew();
        return 0;
    }

    public int row(int slot, int width, int n) {
        if (!hasSlot(slot) || width < 0 || width > LAST_WIDTH || n > MOST_NUMBERS) {
            return NOT_SUCH;
        }
        if (n < 0) {
            return BELOW_ZERO;
        }
        slots[slot].make(width, n);
        return 0;
    }

    public int write(int slot, int i, long v) {
        if (!hasSlot(slot)) {
            return NOT_SUCH;
        }
        Slot to = slots[slot];
        if (!to.there) {
            return NOTHING;
        }
        if (i < 0 || i >= to.length) {
            return BEYOND;
        }
        to.put(i, v);
        return 0;
    }

    public int paste(int slot, int i, int to, int k, int n) {
        if (!hasSlot(slot) || !hasSlot(to)) {
            return NOT_SUCH;
        }
        Slot from = slots[slot];
        Slot onto = slots[to];
        if (!from.there || !onto.there) {
            return NOTHING;
        }
        if (from.width != onto.width) {
            return UNLIKE;
        }
        if (!from.reaches(i, n) || !onto.reaches(k, n)) {
            return BEYOND;
        }
        System.arraycopy(from.numbers, i, onto.numbers, k, n);
        return 0;
    }

    // ---- what is there

    private boolean hasCell(int cell) {
        return cell >= 0 && cell < script.cells;
    }

    private boolean hasTick(int tick) {
        return script.exists() && tick >= 0 && tick <= script.size();
    }

    private boolean hasEvent(int event) {
        return event >= 0 && event < script.size();
    }

    private boolean isTold(int event) {
        return event >= 0 && event < script.told;
    }

    private static boolean hasLevel(int level) {
        return level >= 0 && level <= LAST_LEVEL;
    }

    private static boolean hasSlot(int slot) {
        return slot >= 0 && slot < MOST_SLOTS;
    }

    private static boolean isSeed(int seed) {
        return seed >= 0 && seed <= MOST_SEED;
    }

    private static boolean isUpTo(long number, int most) {
        return number >= 0L && number <= most;
    }

    private static boolean isOut(long out, int event) {
        return (out >> event & 1L) != 0L;
    }

    private static boolean holds(int set, int cell) {
        return (set >> cell & 1) != 0;
    }

    private Copy copyAtLast(int copy) {
        playTo(script.size());
        return run.copyOf(copy);
    }

    private void playAnew() {
        run.clear(script.cells, script.scanLaw);
    }

    /** What has been played up to an earlier tick goes on: most calls ask for one tick after another. */
    private void playTo(int tick) {
        if (tick < run.reached) {
            playAnew();
        }
        for (int i = run.reached; i < tick && i < MOST_EVENTS; i++) {
            run.step(script, i);
        }
    }

    // ---- small reckoning

    private static int regionCells(int level, int i) {
        return (int) ((1L << (1 << level)) - 1L << (i << level));
    }

    private static int dirtyRegions(int level, int dirtyCells) {
        int found = 0;
        for (int i = 0; i < MOST_CELLS >> level; i++) {
            if ((dirtyCells & regionCells(level, i)) != 0) {
                found++;
            }
        }
        return found;
    }

    private static long factorial(int n) {
        long product = 1L;
        for (int i = 2; i <= n; i++) {
            product *= i;
        }
        return product;
    }

    private static long power(int base, int exponent) {
        long product = 1L;
        for (int i = 0; i < exponent; i++) {
            product *= base;
        }
        return product;
    }

    /** Above (what 0) or below of a fraction in lowest terms. */
    private static long lowest(long above, long below, int what) {
        long x = Math.abs(above);
        long y = below;
        // Euclid ends within a hundred steps for all that a long can hold.
        for (int i = 0; i < 100 && x != 0L; i++) {
            long left = y % x;
            y = x;
            x = left;
        }
        if (y == 0L) {
            return 0L;
        }
        return what == 0 ? above / y : below / y;
    }

    /** Whether v can be number i of an event of a kind whose first number is first. */
    private static boolean fits(int cells, int kind, int i, int v, int first) {
        if (i == 0) {
            return kind == SCAN ? v >= 1 && v <= MOST_CELLS : v >= 0 && v < cells;
        }
        if (i == 1 && kind == SWAP) {
            return v >= 0 && v < cells && v != first;
        }
        if (i == 1 && kind == FILL) {
            return v >= first && v < cells;
        }
        return v >= 0 && v <= LAST_VALUE;
    }

    /** A store as it is told, and the acts behind it. */
    private static final class Script {
        int cells;
        int scanLaw;
        int odds;
        int told;
        int acts;
        boolean taken;
        private final int[] kinds = new int[MOST_EVENTS];
        private final int[] numbers = new int[MOST_EVENTS * 3];

        void clear() {
            cells = 0;
            scanLaw = 0;
            odds = 0;
            told = 0;
            acts = 0;
        }

        void become(Script from) {
            cells = from.cells;
            scanLaw = from.scanLaw;
            odds = from.odds;
            told = from.told;
            acts = from.acts;
            System.arraycopy(from.kinds, 0, kinds, 0, MOST_EVENTS);
            System.arraycopy(from.numbers, 0, numbers, 0, MOST_EVENTS * 3);
        }

        boolean exists() {
            return cells > 0;
        }

        int lines() {
            return cells > 0 ? told + 1 : 0;
        }

        int size() {
            return told + acts;
        }

        boolean isCommand(int event) {
            return kindOf(event) <= FILL;
        }

        int commands() {
            int found = 0;
            for (int i = 0; i < size(); i++) {
                if (isCommand(i)) {
                    found++;
                }
            }
            return found;
        }

        int kindOf(int event) {
            return event >= 0 && event < MOST_EVENTS ? kinds[event] : TEAR;
        }

        int numberOf(int event, int i) {
            if (event < 0 || event >= MOST_EVENTS || i < 0 || i >= NUMBERS_OF_KIND[kinds[event]]) {
                return NONE;
            }
            return numbers[event * 3 + i];
        }

        /** Puts an event behind all; the caller counts it as told or as an act. */
        void putEvent(int kind, int a, int b, int c) {
            int at = size();
            if (at < MOST_EVENTS && kind >= 0 && kind < KINDS) {
                kinds[at] = kind;
                numbers[at * 3] = a;
                numbers[at * 3 + 1] = b;
                numbers[at * 3 + 2] = c;
            }
        }
    }

    /** The tape, and how a store is read from it. */
    private static final class Reader {
        private static final int AT_END = 0;
        private static final int WORD = 1;
        private static final int NUMBER = 2;
        private static final int SIGN = 3;
        private static final int OTHER = 4;
        // Above all bounds, and low enough that one digit more does not wrap around.
        private static final int TOO_MUCH = 100000;

        int length;
        int wrong;
        int place = NONE;
        private final byte[] tape = new byte[MOST_BYTES];
        private final int[] taken = new int[3];
        private int token;
        private int from;
        private int behind;
        private int number;
        private int passed;

        boolean hasRoom(int bytes) {
            return length + bytes <= MOST_BYTES;
        }

        void take(int four) {
            for (int shift = 24; shift >= 0 && length < MOST_BYTES; shift -= 8) {
                tape[length] = (byte) (four >> shift);
                length++;
            }
        }

        boolean read(Script into) {
            wrong = 0;
            place = NONE;
            behind = 0;
            into.clear();
            advance();
            if (token == AT_END) {
                return true;
            }
            boolean right = readHead(into);
            for (int i = 0; i < MOST_BYTES && right && token != AT_END; i++) {
                right = readEvent(into);
            }
            return right;
        }

        private boolean readHead(Script into) {
            if (!passWord("store") || !passWord("cells") || !passNumber(2, MOST_CELLS)) {
                return false;
            }
            into.cells = passed;
            if (!passWord("law") || !passNumber(0, LAST_LAW)) {
                return false;
            }
            into.scanLaw = passed;
            if (!passWord("odds") || !passNumber(0, LAST_ODDS)) {
                return false;
            }
            into.odds = passed;
            return passSign();
        }

        private boolean readEvent(Script into) {
            int kind = kindOfWord();
            if (kind == NONE) {
                return fail(1);
            }
            if (into.told >= MOST_TOLD) {
                return fail(3);
            }
            advance();
            Arrays.fill(taken, 0);
            for (int i = 0; i < NUMBERS_OF_KIND[kind] && i < 3; i++) {
                if (token != NUMBER) {
                    return fail(1);
                }
                if (!fits(into.cells, kind, i, number, taken[0])) {
                    return fail(2);
                }
                taken[i] = number;
                advance();
            }
            into.putEvent(kind, taken[0], taken[1], taken[2]);
            into.told++;
            return passSign();
        }

        private boolean fail(int fault) {
            wrong = fault;
            place = from;
            return false;
        }

        private boolean passWord(String text) {
            if (!isWord(text)) {
                return fail(1);
            }
            advance();
            return true;
        }

        /** Passes a number, which is kept: the next token may be a number, too. */
        private boolean passNumber(int low, int high) {
            if (token != NUMBER) {
                return fail(1);
            }
            if (number < low || number > high) {
                return fail(2);
            }
            passed = number;
            advance();
            return true;
        }

        private boolean passSign() {
            if (token != SIGN) {
                return fail(1);
            }
            advance();
            return true;
        }

        private int kindOfWord() {
            for (int kind = 0; kind < KINDS; kind++) {
                if (isWord(wordOf(kind))) {
                    return kind;
                }
            }
            return NONE;
        }

        private static String wordOf(int kind) {
            switch (kind) {
                case SET:
                    return "set";
                case ADD:
                    return "add";
                case SWAP:
                    return "swap";
                case FILL:
                    return "fill";
                case FULL:
                    return "full";
                case PART:
                    return "part";
                case SCAN:
                    return "scan";
                case FINISH:
                    return "finish";
                default:
                    return "tear";
            }
        }

        private boolean isWord(String text) {
            if (token != WORD || behind - from != text.length()) {
                return false;
            }
            for (int i = 0; i < text.length(); i++) {
                if (byteAt(from + i) != text.charAt(i)) {
                    return false;
                }
            }
            return true;
        }

        /** The byte at a place of the tape; a blank, which no token has, beyond it. */
        private int byteAt(int i) {
            return i >= 0 && i < length && i < MOST_BYTES ? tape[i] : ' ';
        }

        private void advance() {
            int i = behind;
            while (i < length && isBlank(byteAt(i))) {
                i++;
            }
            from = i;
            int first = byteAt(i);
            if (i >= length) {
                token = AT_END;
            } else if (isLetter(first)) {
                token = WORD;
                while (i < length && isLetter(byteAt(i))) {
                    i++;
                }
            } else if (isDigit(first)) {
                token = NUMBER;
                i = advanceNumber(i);
            } else {
                token = first == ';' ? SIGN : OTHER;
                i++;
            }
            behind = i;
        }

        private int advanceNumber(int start) {
            int i = start;
            number = 0;
            while (i < length && isDigit(byteAt(i))) {
                number = Math.min(number * 10 + (byteAt(i) - '0'), TOO_MUCH);
                i++;
            }
            return i;
        }

        private static boolean isBlank(int sign) {
            return sign == ' ' || sign == '\n';
        }

        private static boolean isLetter(int sign) {
            return sign >= 'a' && sign <= 'z';
        }

        private static boolean isDigit(int sign) {
            return sign >= '0' && sign <= '9';
        }
    }

    /** The values of cells, without copies. */
    private static final class Board {
        private int cells;
        private final int[] values = new int[MOST_CELLS];

        void clear(int n) {
            cells = Math.max(0, Math.min(n, MOST_CELLS));
            Arrays.fill(values, 0);
        }

        void play(Script script, int ticks, long out) {
            clear(script.cells);
            for (int i = 0; i < ticks && i < MOST_EVENTS; i++) {
                if (!isOut(out, i)) {
                    apply(script, i);
                }
            }
        }

        /** Does a command, and nothing for other events; answers which cells it changes. */
        int apply(Script script, int event) {
            int first = script.numberOf(event, 0);
            int second = script.numberOf(event, 1);
            switch (script.kindOf(event)) {
                case SET:
                    return put(first, second);
                case ADD:
                    return put(first, (cellAt(first) + second) % 256);
                case SWAP:
                    int was = cellAt(first);
                    return put(first, cellAt(second)) | put(second, was);
                case FILL:
                    int v = script.numberOf(event, 2);
                    int changed = 0;
                    for (int i = first; i <= second && i < MOST_CELLS; i++) {
                        changed |= put(i, v);
                    }
                    return changed;
                default:
                    return 0;
            }
        }

        /** Answers the cell as a bit, if it changes. */
        int put(int cell, int v) {
            if (cell < 0 || cell >= cells || values[cell] == v) {
                return 0;
            }
            values[cell] = v;
            return 1 << cell;
        }

        int cellAt(int cell) {
            return cell >= 0 && cell < cells ? values[cell] : 0;
        }

        int total() {
            int found = 0;
            for (int i = 0; i < cells; i++) {
                found += values[i];
            }
            return found;
        }

        int zeros() {
            int found = 0;
            for (int i = 0; i < cells; i++) {
                if (values[i] == 0) {
                    found++;
                }
            }
            return found;
        }

        int unlike(Board than) {
            int found = 0;
            for (int i = 0; i < cells; i++) {
                if (values[i] != than.values[i]) {
                    found++;
                }
            }
            return found;
        }

        void becomeCells(Board from) {
            cells = from.cells;
            System.arraycopy(from.values, 0, values, 0, MOST_CELLS);
        }
    }

    /** One copy: sets of cells are bits. */
    private static final class Copy {
        boolean full;
        int mark;
        int state;
        int ended;
        int wanted;
        int held;
        int rescued;
        int size;
        private final int[] contents = new int[MOST_CELLS];
        private final int[] turns = new int[MOST_CELLS];

        void begin(boolean all, int tick, int cells) {
            full = all;
            mark = tick;
            state = IS_OPEN;
            ended = NONE;
            wanted = cells;
            held = 0;
            rescued = 0;
            size = 0;
        }

        void finishAs(int how, int tick) {
            state = how;
            ended = tick;
        }

        int missing() {
            return wanted & ~held;
        }

        void keep(int cell, int v) {
            if (cell >= 0 && cell < MOST_CELLS && size < MOST_CELLS) {
                held |= 1 << cell;
                contents[cell] = v;
                turns[size] = cell;
                size++;
            }
        }

        int contentOf(int cell) {
            return cell >= 0 && cell < MOST_CELLS ? contents[cell] : NONE;
        }

        int cellInTurn(int i) {
            return i >= 0 && i < size && i < MOST_CELLS ? turns[i] : NONE;
        }
    }

    /** Events played one by one, with the copies that they make. */
    private static final class Run {
        final Board now = new Board();
        int reached;
        int dirtyCells;
        int begun;
        int openCopy = NONE;
        // Of the event that was played last.
        int reason;
        int changed;
        int rescuedNow;
        private int cells;
        private int scanLaw;
        private boolean anyWhole;
        private final Board ahead = new Board();
        private final int[] latestOf = new int[MOST_CELLS];
        private final int[] changedBy = new int[MOST_EVENTS];
        private final Copy[] made = new Copy[MOST_COPIES];

        Run() {
            for (int i = 0; i < MOST_COPIES; i++) {
                made[i] = new Copy();
            }
        }

        void clear(int n, int law) {
            cells = Math.max(0, Math.min(n, MOST_CELLS));
            scanLaw = law;
            now.clear(cells);
            reached = 0;
            dirtyCells = 0;
            begun = 0;
            openCopy = NONE;
            anyWhole = false;
            reason = 0;
            changed = 0;
            rescuedNow = 0;
            Arrays.fill(latestOf, NONE);
            Arrays.fill(changedBy, 0);
        }

        void play(Script script, int law, long out) {
            clear(script.cells, law);
            for (int i = 0; i < script.size() && i < MOST_EVENTS; i++) {
                if (!isOut(out, i)) {
                    step(script, i);
                }
            }
        }

        void step(Script script, int event) {
            reached = event + 1;
            changed = 0;
            rescuedNow = 0;
            int kind = script.kindOf(event);
            reason = refusal(kind);
            if (reason != 0) {
                return;
            }
            switch (kind) {
                case FULL:
                    begin(true, event, allCells());
                    break;
                case PART:
                    begin(false, event, dirtyCells);
                    break;
                case SCAN:
                    keepNext(script.numberOf(event, 0));
                    break;
                case FINISH:
                    keepNext(MOST_CELLS);
                    finishWhole(event + 1);
                    break;
                case TEAR:
                    endOpen(IS_TORN, event + 1);
                    break;
                default:
                    command(script, event);
                    break;
            }
        }

        private int refusal(int kind) {
            boolean isOpen = openCopy != NONE;
            if (kind == FULL || kind == PART) {
                if (isOpen) {
                    return 1;
                }
                return kind == PART && !anyWhole ? 3 : 0;
            }
            return kind > PART && !isOpen ? 2 : 0;
        }

        private int allCells() {
            return (int) ((1L << cells) - 1L);
        }

        private void command(Script script, int event) {
            ahead.becomeCells(now);
            changed = now.apply(script, event);
            if (changed == 0 || event < 0 || event >= MOST_EVENTS) {
                return;
            }
            changedBy[event] = changed;
            dirtyCells |= changed;
            for (int i = 0; i < cells; i++) {
                if (holds(changed, i)) {
                    latestOf[i] = event;
                }
            }
            Copy one = copyOf(openCopy);
            if (one != null) {
                rescuedNow = changed & one.missing();
                one.rescued |= rescuedNow;
                keepLowest(one, rescuedNow, MOST_CELLS, ahead);
            }
        }

        private void begin(boolean all, int event, int wanted) {
            if (begun < MOST_COPIES) {
                made[begun].begin(all, event, wanted);
                openCopy = begun;
                begun++;
            }
        }

        /** Keeps the next n cells by the law. */
        private void keepNext(int n) {
            Copy one = copyOf(openCopy);
            if (one == null) {
                return;
            }
            int most = one.size + n;
            if (scanLaw == 1) {
                keepHighest(one, most);
            } else if (scanLaw == 2) {
                for (int i = Math.min(reached, MOST_EVENTS) - 1; i >= 0; i--) {
                    keepLowest(one, one.missing() & changedBy[i], most, now);
                }
            } else if (scanLaw == 3) {
                keepLowest(one, one.missing() & EVEN_CELLS, most, now);
            }
            keepLowest(one, one.missing(), most, now);
        }

        /** Keeps cells of a set, the least first, as long as the copy has kept fewer than most. */
        private void keepLowest(Copy one, int set, int most, Board from) {
            for (int i = 0; i < cells && set != 0 && one.size < most; i++) {
                if (holds(set, i)) {
                    one.keep(i, from.cellAt(i));
                }
            }
        }

        private void keepHighest(Copy one, int most) {
            int set = one.missing();
            for (int i = cells - 1; i >= 0 && one.size < most; i--) {
                if (holds(set, i)) {
                    one.keep(i, now.cellAt(i));
                }
            }
        }

        private void finishWhole(int tick) {
            Copy one = copyOf(openCopy);
            if (one == null) {
                return;
            }
            dirtyCells = 0;
            for (int i = 0; i < cells; i++) {
                if (latestOf[i] >= one.mark) {
                    dirtyCells |= 1 << i;
                }
            }
            anyWhole = true;
            endOpen(IS_WHOLE, tick);
        }

        private void endOpen(int how, int tick) {
            Copy one = copyOf(openCopy);
            if (one != null) {
                one.finishAs(how, tick);
            }
            openCopy = NONE;
        }

        int latestChange(int cell) {
            return cell >= 0 && cell < MOST_CELLS ? latestOf[cell] : NONE;
        }

        Copy copyOf(int i) {
            return i >= 0 && i < begun && i < MOST_COPIES ? made[i] : null;
        }

        private boolean isWhole(int i) {
            Copy one = copyOf(i);
            return one != null && one.state == IS_WHOLE;
        }

        /** How many cells are kept by all copies of a state. */
        int sizes(int state) {
            int found = 0;
            for (int i = 0; i < begun && i < MOST_COPIES; i++) {
                if (made[i].state == state) {
                    found += made[i].size;
                }
            }
            return found;
        }

        int allRescued() {
            int found = 0;
            for (int i = 0; i < begun && i < MOST_COPIES; i++) {
                found += Integer.bitCount(made[i].rescued);
            }
            return found;
        }

        private int lastWhole() {
            for (int i = begun - 1; i >= 0; i--) {
                if (isWhole(i)) {
                    return i;
                }
            }
            return NONE;
        }

        /** The first copy of the chain: all whole ones from it on are of the chain. */
        private int chainHead() {
            for (int i = begun - 1; i >= 0; i--) {
                if (isWhole(i) && made[i].full) {
                    return i;
                }
            }
            return NONE;
        }

        int links() {
            int head = chainHead();
            int found = 0;
            for (int i = head; head != NONE && i < begun; i++) {
                if (isWhole(i)) {
                    found++;
                }
            }
            return found;
        }

        int link(int n) {
            int head = chainHead();
            int left = n;
            for (int i = head; head != NONE && i < begun; i++) {
                if (isWhole(i)) {
                    if (left == 0) {
                        return i;
                    }
                    left--;
                }
            }
            return NONE;
        }

        /** The tick from which on is replayed; a chain's last copy is the last whole one. */
        int chainMark() {
            Copy last = chainHead() == NONE ? null : copyOf(lastWhole());
            return last == null ? 0 : last.mark;
        }

        int sourceOf(int cell) {
            int head = chainHead();
            for (int i = begun - 1; head != NONE && i >= head; i--) {
                if (isWhole(i) && holds(made[i].held, cell)) {
                    return i;
                }
            }
            return NONE;
        }

        int raisedCell(int cell) {
            Copy one = copyOf(sourceOf(cell));
            return one == null ? 0 : one.contentOf(cell);
        }

        int keptAgain() {
            int head = chainHead();
            int later = 0;
            int found = 0;
            for (int i = begun - 1; head != NONE && i >= head; i--) {
                if (isWhole(i)) {
                    found += Integer.bitCount(made[i].held & later);
                    later |= made[i].held;
                }
            }
            return found;
        }
    }

    /** A row of numbers of one width. */
    private static final class Slot {
        boolean there;
        int width;
        int length;
        private final long[] numbers = new long[MOST_NUMBERS];

        void make(int w, int n) {
            there = true;
            width = w;
            length = Math.max(0, Math.min(n, MOST_NUMBERS));
            Arrays.fill(numbers, 0L);
        }

        void put(int i, long v) {
            if (i >= 0 && i < length) {
                numbers[i] = cut(v);
            }
        }

        long numberAt(int i) {
            return i >= 0 && i < length ? numbers[i] : 0L;
        }

        boolean reaches(int i, int n) {
            return i >= 0 && n >= 0 && (long) i + n <= length;
        }

        private long cut(long v) {
            switch (width) {
                case 0:
                    return (byte) v;
                case 1:
                    return (short) v;
                case 2:
                    return (int) v;
                default:
                    return v;
            }
        }
    }
}
