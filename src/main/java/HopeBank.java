import java.util.Arrays;

/**
 * Piggy banks hold the hopes: a town told as a text, what is in which pig when, and what follows from it.
 * The numbered promises stand in the document; every array and every helper is made once, with the object.
 */
public final class HopeBank {
    public static final int NONE = -1;

    private static final int MISSING = -2;
    private static final int BELOW_NOUGHT = -3;
    private static final int FAULTY = -4;
    private static final int REFUSED = -5;
    private static final int NOTHING = -6;
    private static final int BEYOND = -7;
    private static final int UNLIKE = -8;
    private static final int NO_GAME = -1000;

    private static final int OUTSIDE = -10;
    private static final int STOLEN = -11;
    private static final int BROKEN_OUT = -12;

    private static final int MOST_BYTES = 900;
    private static final int BYTES_FED = 20;
    private static final int MOST_NIGHTS = 20;
    private static final int MOST_ROOM = 60;
    private static final int MOST_WORTH = 80;
    private static final int MOST_PIGS = 5;
    private static final int MOST_HOPES = 8;
    private static final int MOST_DROPS = 10;
    private static final int MOST_THIEVES = 6;
    private static final int MOST_ACTS = 30;
    private static final int MOST_SETS = 256;
    private static final int FARTHEST = 9;
    private static final int IMAGES = 3;
    private static final int TEN = 10;

    private static final int SLOTS = 4;
    private static final int WIDTHS = 4;
    private static final int MOST_NUMBERS = 60;

    private static final int NIGHTS = 0;
    private static final int LAW = 1;
    private static final int QUIET = 2;
    private static final int ODDS = 3;

    private static final int ROOM = 0;
    private static final int SLOT = 1;

    private static final int SIZE = 0;
    private static final int LOUD = 1;
    private static final int WORTH = 2;

    private static final int DROP_HOPE = 0;
    private static final int DROP_PIG = 1;
    private static final int DROP_NIGHT = 2;

    private static final int THIEF_NIGHT = 0;
    private static final int THIEF_PIG = 1;
    private static final int THIEF_FINGERS = 2;

    private static final int EVENT_NIGHT = 0;
    private static final int EVENT_KIND = 1;
    private static final int EVENT_NUMBER = 2;

    /* The kinds of events, numbered as they follow one another in a night. */
    private static final int TOLD_DROP = 0;
    private static final int ACT_DROP = 1;
    private static final int THEFT = 2;
    private static final int BREAK = 3;

    private static final int END = 0;
    private static final int WORD = 1;
    private static final int NUMBER = 2;
    private static final int SIGN = 3;
    private static final int STRANGE = 4;

    private static final int MISPLACED = 1;
    private static final int OUT_OF_BOUNDS = 2;
    private static final int TOO_MANY = 3;

    private static final int ALL_COME = -1;
    private static final int PENALTY = 9;
    private static final int LAST_SEED = 2000000000;
    private static final int MOST_YEARS = 20;
    private static final int HUGE = 1000000;

    private final Reader reader;
    private final Town current;
    private final Town[] images;
    private int kept;
    private final Play play;
    private final Look look;
    private final Trials trials;
    private final Sets sets;
    private final Packing packing;
    private final Hush hush;
    private final Slots slots;
    private final Tilting tilting;

    public HopeBank() {
        reader = new Reader();
        current = new Town();
        images = new Town[IMAGES];
        for (int k = 0; k < images.length; k++) {
            images[k] = new Town();
        }
        kept = 0;
        play = new Play(current);
        look = new Look(current, play);
        trials = new Trials(current);
        sets = new Sets(current);
        packing = new Packing(current, sets);
        hush = new Hush(current, sets);
        slots = new Slots();
        tilting = new Tilting(current, sets, slots);
    }

    public int feed(int a, int b, int c, int d, int e) {
        if (reader.length + BYTES_FED > MOST_BYTES) {
            return NONE;
        }
        reader.append(a);
        reader.append(b);
        reader.append(c);
        reader.append(d);
        reader.append(e);
        return reader.length;
    }

    public int end(int n) {
        if (n < 0 || n > reader.length) {
            return NONE;
        }
        reader.length = n;
        return n;
    }

    public int town() {
        if (!reader.parse()) {
            return FAULTY;
        }
        reader.length = 0;
        current.copy(reader.found);
        renew();
        return current.lines;
    }

    public int fault(int what) {
        if (what == 0) {
            return reader.fault;
        }
        return what == 1 ? reader.place : NONE;
    }

    public int pig(int pig, int what) {
        return current.pigs.get(pig, what);
    }

    public int hope(int hope, int what) {
        return current.hopes.get(hope, what);
    }

    public int drop(int drop, int what) {
        return current.told.get(drop, what);
    }

    public int thief(int thief, int what) {
        return current.thieves.get(thief, what);
    }

    public int misses() {
        if (!current.stands()) {
            return MISSING;
        }
        return firstBits(current.told.size) & ~play.wentIn;
    }

    public int silent() {
        return current.stands() ? look.hopesHeard(0, 0) : MISSING;
    }

    public int empties(int night) {
        return current.hasNight(night) ? look.pigsEmpty(night) : MISSING;
    }

    public int heavy(int night) {
        return current.hasNight(night) ? look.heaviest(night) : MISSING;
    }

    public int oldest(int pig, int night) {
        return lacks(pig, night) ? MISSING : look.longestIn(pig, night);
    }

    public int small(int pig, int night) {
        return lacks(pig, night) ? MISSING : look.leastIn(pig, night);
    }

    public int rich(int hope, int night) {
        return lacksHope(hope, night) ? MISSING : look.hopeValue(hope, night);
    }

    public int crowd() {
        return current.stands() ? look.mostInOne() : MISSING;
    }

    public int loud(int pig) {
        return current.pigs.has(pig) ? look.loudestFall(pig) : MISSING;
    }

    public int gains(int pig) {
        if (!current.pigs.has(pig)) {
            return MISSING;
        }
        return look.pigValue(pig, look.bestNight(pig)) - look.pigValue(pig, current.lastNight());
    }

    public int tight(int pig) {
        return current.pigs.has(pig) ? look.leastSpare(pig) : MISSING;
    }

    public int victims() {
        return current.stands() ? look.pigsRobbed() : MISSING;
    }

    public int within(int pig, int night) {
        return lacks(pig, night) ? MISSING : look.setIn(pig, night);
    }

    public int where(int hope, int night) {
        return lacksHope(hope, night) ? MISSING : look.placeOf(hope, night);
    }

    public int falls(int hope) {
        return current.hopes.has(hope) ? at(play.fell, hope) : MISSING;
    }

    public int heard(int hope) {
        return current.hopes.has(hope) ? at(play.volume, hope) : MISSING;
    }

    public int known() {
        return current.stands() ? look.hopesHeard(current.headNumber(QUIET) + 1, HUGE) : MISSING;
    }

    public int weight(int pig, int night) {
        return lacks(pig, night) ? MISSING : look.load(pig, night);
    }

    public int left(int pig, int night) {
        return lacks(pig, night) ? MISSING : look.spare(pig, night);
    }

    public int rattle(int pig, int night) {
        return lacks(pig, night) ? MISSING : look.noise(pig, night);
    }

    public int value(int pig, int night) {
        return lacks(pig, night) ? MISSING : look.pigValue(pig, night);
    }

    public int all(int night) {
        return current.hasNight(night) ? look.townValue(night) : MISSING;
    }

    public int stolen(int night) {
        return current.hasNight(night) ? look.hopesAt(STOLEN, night) : MISSING;
    }

    public int takes(int thief) {
        return current.thieves.has(thief) ? at(play.took, thief) : MISSING;
    }

    public int loss() {
        return current.stands() ? current.worthOf(look.hopesAt(STOLEN, current.lastNight())) : MISSING;
    }

    public int got(int night) {
        return current.hasNight(night) ? current.worthOf(look.hopesAt(BROKEN_OUT, night)) : MISSING;
    }

    public int out() {
        return current.stands() ? look.hopesAt(OUTSIDE, current.lastNight()) : MISSING;
    }

    public int loudest(int night) {
        return current.hasNight(night) ? look.noisiest(night) : MISSING;
    }

    public int full(int pig) {
        return current.pigs.has(pig) ? look.firstFull(pig) : MISSING;
    }

    public int best(int pig) {
        if (!current.pigs.has(pig)) {
            return MISSING;
        }
        int night = look.bestNight(pig);
        return look.pigValue(pig, night) > 0 ? night : NONE;
    }

    public int may(int pig, int night) {
        return lacks(pig, night) ? MISSING : trials.wouldGoIn(pig, night);
    }

    public int needs(int pig) {
        return current.pigs.has(pig) ? trials.leastRoom(pig) : MISSING;
    }

    public int ward() {
        return current.stands() ? trials.thiefToWard() : MISSING;
    }

    public int packs() {
        if (!current.stands()) {
            return MISSING;
        }
        packing.settle();
        return packing.greatest;
    }

    public int packed(int hope) {
        if (!current.hopes.has(hope)) {
            return MISSING;
        }
        packing.settle();
        return at(packing.choice, hope);
    }

    public int most() {
        if (!current.stands()) {
            return MISSING;
        }
        packing.settle();
        return packing.highest;
    }

    public int unheard(int pig) {
        if (!current.pigs.has(pig)) {
            return MISSING;
        }
        hush.fill(pig);
        return at(hush.longest, 0);
    }

    public int order(int pig, int i) {
        if (!current.pigs.has(pig)) {
            return MISSING;
        }
        hush.fill(pig);
        return hush.hopeAt(i);
    }

    public int rows(int pig) {
        if (!current.pigs.has(pig)) {
            return MISSING;
        }
        hush.fill(pig);
        return at(hush.ways, 0);
    }

    public int tilts(int slot, int pig) {
        int refusal = tilting.collect(slot, pig);
        return refusal == 0 ? tilting.size : refusal;
    }

    public int surely(int slot, int pig) {
        int refusal = tilting.collect(slot, pig);
        return refusal == 0 ? tilting.inEach() : refusal;
    }

    public int never(int slot, int pig) {
        int refusal = tilting.collect(slot, pig);
        return refusal == 0 ? tilting.inNone() : refusal;
    }

    public int ask(int slot, int pig) {
        int refusal = tilting.collect(slot, pig);
        return refusal == 0 ? tilting.wisestTilt() : refusal;
    }

    public int leaves(int slot, int pig) {
        int refusal = tilting.collect(slot, pig);
        return refusal == 0 ? tilting.leftAtWorst(tilting.wisestTilt()) : refusal;
    }

    public int lighter(int pig, int night, int n) {
        if (lacks(pig, night) || n < 0 || n > MOST_ROOM) {
            return MISSING;
        }
        sets.fill();
        return sets.howManyWeigh(look.setIn(pig, night), n);
    }

    public int taken(int pig, int night, int n) {
        if (lacks(pig, night) || n < 0 || n > MOST_ROOM) {
            return MISSING;
        }
        sets.fill();
        return sets.fewestThatWeigh(look.setIn(pig, night), n);
    }

    public int rests(int pig, int other) {
        return lacksGame(pig, other) ? MISSING : trials.pairsAtRest(pig, other);
    }

    public int gets(int pig, int other, int x, int y) {
        if (lacksGame(pig, other) || x < 0 || x > 1 || y < 0 || y > 1) {
            return NO_GAME;
        }
        trials.playWith(ALL_COME, false);
        return trials.payOff(pig, other, x, y);
    }

    public int chance(int hope, int night, int what) {
        if (lacksHope(hope, night) || what < 0 || what > 1) {
            return MISSING;
        }
        trials.weighHope(hope, night);
        return trials.fraction(what);
    }

    public int mean(int pig, int night, int what) {
        if (lacks(pig, night) || what < 0 || what > 1) {
            return MISSING;
        }
        trials.weighPig(pig, night);
        return trials.fraction(what);
    }

    public int drops(int hope, int pig, int night) {
        if (lacks(pig, night) || !current.hopes.has(hope)) {
            return MISSING;
        }
        return act(hope, pig, night);
    }

    public int breaks(int pig, int night) {
        return lacks(pig, night) ? MISSING : act(NONE, pig, night);
    }

    public int undo() {
        if (!current.stands()) {
            return MISSING;
        }
        if (current.acts.size == 0) {
            return REFUSED;
        }
        current.acts.removeLast();
        renew();
        return current.acts.size;
    }

    public int anew() {
        if (!current.stands()) {
            return MISSING;
        }
        int were = current.acts.size;
        current.acts.clear();
        renew();
        return were;
    }

    public int drawn(int seed, int what) {
        if (!current.stands() || seed < 0 || seed > LAST_SEED || what < 0 || what > 1) {
            return MISSING;
        }
        return what == 0 ? trials.comers(seed) : trials.valueDrawn(seed);
    }

    public int luck(int seed, int n, int hope) {
        if (!current.hopes.has(hope) || seed < 0 || seed > LAST_SEED || n < 1 || n > MOST_YEARS) {
            return MISSING;
        }
        return trials.yearsStolen(seed, n, hope);
    }

    public int rate(int hope, int n) {
        if (!current.hopes.has(hope) || n < 0 || n > MOST_WORTH) {
            return MISSING;
        }
        if (current.acts.size > 0) {
            return REFUSED;
        }
        int was = current.hopes.get(hope, WORTH);
        current.hopes.put(hope, WORTH, n);
        renew();
        return was;
    }

    public int count(int what) {
        switch (what) {
            case 0: return current.headNumber(NIGHTS);
            case 1: return current.headNumber(LAW);
            case 2: return current.headNumber(QUIET);
            case 3: return current.headNumber(ODDS);
            case 4: return current.pigs.size;
            case 5: return current.hopes.size;
            case 6: return current.told.size;
            case 7: return current.thieves.size;
            case 8: return current.acts.size;
            case 9: return current.lines;
            case 10: return reader.length;
            case 11: return slots.howManyHaveRows();
            default: return NONE;
        }
    }

    public int image(int k) {
        Town image = imageOf(k);
        if (image == null) {
            return MISSING;
        }
        image.copy(current);
        kept = kept | 1 << k;
        return 0;
    }

    public int back(int k) {
        Town image = imageOf(k);
        if (image == null) {
            return MISSING;
        }
        if (!hasBit(kept, k)) {
            return NOTHING;
        }
        current.copy(image);
        renew();
        return 0;
    }

    public int row(int slot, int width, int n) {
        if (!slots.exists(slot) || width < 0 || width >= WIDTHS || n > MOST_NUMBERS) {
            return MISSING;
        }
        if (n < 0) {
            return BELOW_NOUGHT;
        }
        slots.lay(slot, width, n);
        return 0;
    }

    public int write(int slot, int i, long v) {
        if (!slots.exists(slot)) {
            return MISSING;
        }
        if (!slots.hasRow(slot)) {
            return NOTHING;
        }
        return slots.put(slot, i, v) ? 0 : BEYOND;
    }

    public int paste(int slot, int i, int to, int k, int n) {
        if (!slots.exists(slot) || !slots.exists(to)) {
            return MISSING;
        }
        if (!slots.hasRow(slot) || !slots.hasRow(to)) {
            return NOTHING;
        }
        if (slots.widthOf(slot) != slots.widthOf(to)) {
            return UNLIKE;
        }
        if (!slots.holds(slot, i, n) || !slots.holds(to, k, n)) {
            return BEYOND;
        }
        slots.move(slot, i, to, k, n);
        return 0;
    }

    private boolean lacks(int pig, int night) {
        return !current.pigs.has(pig) || !current.hasNight(night);
    }

    private boolean lacksHope(int hope, int night) {
        return !current.hopes.has(hope) || !current.hasNight(night);
    }

    private boolean lacksGame(int pig, int other) {
        return !current.pigs.has(pig) || !current.pigs.has(other) || pig == other;
    }

    private Town imageOf(int k) {
        return k >= 0 && k < images.length ? images[k] : null;
    }

    private int act(int hope, int pig, int night) {
        int number = current.acts.size;
        if (!current.acts.add(hope, pig, night)) {
            return REFUSED;
        }
        renew();
        return at(play.results, number);
    }

    /** What is derived from the town is made anew here, behind every change of it. */
    private void renew() {
        current.plan();
        play.choose(ALL_COME, true);
        play.playTo(MOST_NIGHTS, BREAK);
        packing.forget();
    }

    private static int at(int[] numbers, int i) {
        return i >= 0 && i < numbers.length ? numbers[i] : NONE;
    }

    private static void set(int[] numbers, int i, int v) {
        if (i >= 0 && i < numbers.length) {
            numbers[i] = v;
        }
    }

    private static boolean hasBit(int bits, int i) {
        return i >= 0 && i < 32 && (bits & 1 << i) != 0;
    }

    private static int firstBits(int n) {
        return n > 0 && n < 31 ? (1 << n) - 1 : 0;
    }

    /** How loud a hope is heard that falls among so many and leaves so much room behind it. */
    private static int loudness(int law, int loud, int among, int roomBehind) {
        switch (law) {
            case 1: return Math.max(0, loud - among);
            case 2: return among == 0 ? loud : loud / 2;
            case 3: return roomBehind > 0 ? loud : 0;
            default: return loud;
        }
    }

    /** Rows of a few numbers each, as many as were added, up to a limit. */
    private static final class Table {
        final int wide;
        final int[] cells;
        int size;

        Table(int limit, int wide) {
            this.wide = Math.max(1, wide);
            this.cells = new int[Math.max(0, limit) * this.wide];
            this.size = 0;
        }

        boolean has(int i) {
            return i >= 0 && i < size;
        }

        boolean hasSpace() {
            return (size + 1) * wide <= cells.length;
        }

        int get(int i, int k) {
            if (i < 0 || i >= size || k < 0 || k >= wide) {
                return MISSING;
            }
            int cell = i * wide + k;
            return cell < cells.length ? cells[cell] : MISSING;
        }

        void put(int i, int k, int v) {
            if (i < 0 || i >= size || k < 0 || k >= wide) {
                return;
            }
            int cell = i * wide + k;
            if (cell < cells.length) {
                cells[cell] = v;
            }
        }

        boolean add(int a, int b, int c) {
            if (!hasSpace()) {
                return false;
            }
            size++;
            put(size - 1, 0, a);
            put(size - 1, 1, b);
            put(size - 1, 2, c);
            return true;
        }

        void removeLast() {
            if (size > 0) {
                size--;
            }
        }

        void clear() {
            size = 0;
        }

        void copy(Table other) {
            int cellsOfBoth = Math.min(cells.length, other.cells.length);
            System.arraycopy(other.cells, 0, cells, 0, cellsOfBoth);
            size = Math.min(other.size, cellsOfBoth / Math.max(1, wide));
        }
    }

    /** A town as it was told, the acts done in it, and the events that follow from both. */
    private static final class Town {
        final Table head = new Table(1, 4);
        final Table pigs = new Table(MOST_PIGS, 2);
        final Table hopes = new Table(MOST_HOPES, 3);
        final Table told = new Table(MOST_DROPS, 3);
        final Table thieves = new Table(MOST_THIEVES, 3);
        /* A hope, a pig and a night each, in a drop's columns; a break has no hope. */
        final Table acts = new Table(MOST_ACTS, 3);
        final Table events = new Table(MOST_DROPS + MOST_THIEVES + MOST_ACTS, 3);
        int lines;

        boolean stands() {
            return lines > 0;
        }

        int headNumber(int k) {
            return head.size > 0 ? head.get(0, k) : 0;
        }

        boolean hasNight(int night) {
            return night >= 0 && night < headNumber(NIGHTS);
        }

        int lastNight() {
            return headNumber(NIGHTS) - 1;
        }

        int worthOf(int bits) {
            int sum = 0;
            for (int h = 0; h < hopes.size; h++) {
                if (hasBit(bits, h)) {
                    sum += hopes.get(h, WORTH);
                }
            }
            return sum;
        }

        void clear() {
            head.clear();
            pigs.clear();
            hopes.clear();
            told.clear();
            thieves.clear();
            acts.clear();
            events.clear();
            lines = 0;
        }

        void copy(Town other) {
            head.copy(other.head);
            pigs.copy(other.pigs);
            hopes.copy(other.hopes);
            told.copy(other.told);
            thieves.copy(other.thieves);
            acts.copy(other.acts);
            lines = other.lines;
        }

        /** Puts the events in order; behind a copy or an act it has to be done anew. */
        void plan() {
            events.clear();
            int nights = headNumber(NIGHTS);
            for (int night = 0; night < nights; night++) {
                planDrops(night);
                planThieves(night);
                planBreaks(night);
            }
        }

        private void planDrops(int night) {
            for (int i = 0; i < told.size; i++) {
                if (told.get(i, DROP_NIGHT) == night) {
                    events.add(night, TOLD_DROP, i);
                }
            }
            for (int i = 0; i < acts.size; i++) {
                if (acts.get(i, DROP_NIGHT) == night && acts.get(i, DROP_HOPE) != NONE) {
                    events.add(night, ACT_DROP, i);
                }
            }
        }

        private void planThieves(int night) {
            for (int i = 0; i < thieves.size; i++) {
                if (thieves.get(i, THIEF_NIGHT) == night) {
                    events.add(night, THEFT, i);
                }
            }
        }

        private void planBreaks(int night) {
            for (int i = 0; i < acts.size; i++) {
                if (acts.get(i, DROP_NIGHT) == night && acts.get(i, DROP_HOPE) == NONE) {
                    events.add(night, BREAK, i);
                }
            }
        }
    }

    /** The tape, and how a town is read from it: the first fault ends the reading. */
    private static final class Reader {
        final byte[] tape = new byte[MOST_BYTES];
        int length;
        final Town found = new Town();
        int fault;
        int place = NONE;
        private int next;
        private int kind;
        private int start;
        private final int[] numbers = new int[4];
        private int read;

        void append(int four) {
            for (int shift = 24; shift >= 0; shift -= 8) {
                if (length >= 0 && length < tape.length) {
                    tape[length] = (byte) (four >> shift);
                    length++;
                }
            }
        }

        boolean parse() {
            found.clear();
            fault = 0;
            place = NONE;
            next = 0;
            advance();
            for (int i = 0; i < MOST_BYTES && kind != END; i++) {
                if (!readLine()) {
                    return false;
                }
                advance();
            }
            return true;
        }

        private boolean readLine() {
            boolean first = found.lines == 0;
            read = 0;
            if (first || isWord("town")) {
                return first && isWord("town") ? townNumbers() && close(found.head) : wrong(MISPLACED);
            }
            if (isWord("pig")) {
                return opens(found.pigs) && pigNumbers() && close(found.pigs);
            }
            if (isWord("hope")) {
                return opens(found.hopes) && hopeNumbers() && close(found.hopes);
            }
            if (isWord("drop")) {
                return opens(found.told) && dropNumbers() && close(found.told);
            }
            if (isWord("thief")) {
                return opens(found.thieves) && thiefNumbers() && close(found.thieves);
            }
            return wrong(MISPLACED);
        }

        private boolean townNumbers() {
            return numberBehind("nights", 1, MOST_NIGHTS) && numberBehind("law", 0, 3)
                && numberBehind("quiet", 0, 9) && numberBehind("odds", 0, TEN);
        }

        private boolean pigNumbers() {
            return numberBehind("room", 1, MOST_ROOM) && numberBehind("slot", 1, 9);
        }

        private boolean hopeNumbers() {
            return numberBehind("size", 1, 9) && numberBehind("loud", 0, 9) && numberBehind("worth", 0, MOST_WORTH);
        }

        private boolean dropNumbers() {
            return number(0, found.hopes.size - 1) && numberBehind("in", 0, found.pigs.size - 1)
                && numberBehind("at", 0, MOST_NIGHTS - 1);
        }

        private boolean thiefNumbers() {
            return numberBehind("at", 0, MOST_NIGHTS - 1) && numberBehind("from", 0, found.pigs.size - 1)
                && numberBehind("fingers", 1, 9);
        }

        private boolean opens(Table table) {
            return table.hasSpace() || wrong(TOO_MANY);
        }

        private boolean close(Table table) {
            advance();
            if (kind != SIGN) {
                return wrong(MISPLACED);
            }
            table.add(at(numbers, 0), at(numbers, 1), at(numbers, 2));
            table.put(table.size - 1, 3, at(numbers, 3));
            found.lines++;
            return true;
        }

        private boolean numberBehind(String word, int least, int greatest) {
            advance();
            return isWord(word) ? number(least, greatest) : wrong(MISPLACED);
        }

        private boolean number(int least, int greatest) {
            advance();
            if (kind != NUMBER) {
                return wrong(MISPLACED);
            }
            int amount = amount();
            if (amount < least || amount > greatest) {
                return wrong(OUT_OF_BOUNDS);
            }
            set(numbers, read, amount);
            read++;
            return true;
        }

        private boolean wrong(int what) {
            fault = what;
            place = start;
            return false;
        }

        /** Goes on to the next token, the longest that begins there. */
        private void advance() {
            int i = next;
            while (i < length && isBlank(byteAt(i))) {
                i++;
            }
            start = i;
            kind = kindOf(byteAt(i));
            i++;
            if (kind == WORD || kind == NUMBER) {
                while (i < length && kindOf(byteAt(i)) == kind) {
                    i++;
                }
            }
            next = Math.min(i, length);
        }

        private int byteAt(int i) {
            return i >= 0 && i < length && i < tape.length ? tape[i] & 255 : NONE;
        }

        private static boolean isBlank(int c) {
            return c == 32 || c == 10;
        }

        private static int kindOf(int c) {
            if (c == NONE) {
                return END;
            }
            if (c >= 'a' && c <= 'z') {
                return WORD;
            }
            if (c >= '0' && c <= '9') {
                return NUMBER;
            }
            return c == ';' ? SIGN : STRANGE;
        }

        private boolean isWord(String word) {
            if (kind != WORD || next - start != word.length()) {
                return false;
            }
            for (int i = 0; i < word.length(); i++) {
                if (byteAt(start + i) != word.charAt(i)) {
                    return false;
                }
            }
            return true;
        }

        /** The token's number; one that is beyond every bound is cut, so that many digits don't wrap around. */
        private int amount() {
            int sum = 0;
            for (int i = start; i < next; i++) {
                sum = Math.min(HUGE, sum * 10 + byteAt(i) - '0');
            }
            return sum;
        }
    }

    /** One course of the nights: who comes, whether pigs are broken, and another room of a pig may be chosen. */
    private static final class Play {
        final Town town;
        /* Of each hope: when it goes in, where, how loud it is heard, when it goes away, and how. */
        final int[] fell = new int[MOST_HOPES];
        final int[] into = new int[MOST_HOPES];
        final int[] volume = new int[MOST_HOPES];
        final int[] gone = new int[MOST_HOPES];
        final int[] how = new int[MOST_HOPES];
        final int[] took = new int[MOST_THIEVES];
        /* Of each act what it answers: whether the hope goes in, which hopes are got. */
        final int[] results = new int[MOST_ACTS];
        int wentIn;
        private final int[] spares = new int[MOST_PIGS];
        private final int[] inside = new int[MOST_PIGS];
        private int broken;
        private int coming;
        private boolean breaking;
        private int widened;
        private int widenedRoom;

        Play(Town town) {
            this.town = town;
            choose(ALL_COME, true);
            begin();
        }

        void choose(int thievesComing, boolean pigsBreak) {
            coming = thievesComing;
            breaking = pigsBreak;
            widened = NONE;
            widenedRoom = 0;
        }

        void giveRoom(int pig, int room) {
            widened = pig;
            widenedRoom = room;
        }

        /** Plays all events to those of a kind in a night, these with it. */
        void playTo(int night, int kind) {
            begin();
            for (int e = 0; e < town.events.size; e++) {
                int eventNight = town.events.get(e, EVENT_NIGHT);
                int eventKind = town.events.get(e, EVENT_KIND);
                if (eventNight > night || eventNight == night && eventKind > kind) {
                    return;
                }
                happen(eventNight, eventKind, town.events.get(e, EVENT_NUMBER));
            }
        }

        private void begin() {
            Arrays.fill(fell, NONE);
            Arrays.fill(into, NONE);
            Arrays.fill(volume, NONE);
            Arrays.fill(gone, NONE);
            Arrays.fill(how, NONE);
            Arrays.fill(took, NONE);
            Arrays.fill(results, 0);
            Arrays.fill(inside, 0);
            for (int p = 0; p < spares.length; p++) {
                spares[p] = p == widened ? widenedRoom : town.pigs.get(p, ROOM);
            }
            wentIn = 0;
            broken = 0;
        }

        private void happen(int night, int kind, int number) {
            switch (kind) {
                case TOLD_DROP:
                    if (goesIn(town.told, number, night)) {
                        wentIn = wentIn | 1 << number;
                    }
                    break;
                case ACT_DROP:
                    set(results, number, goesIn(town.acts, number, night) ? 1 : 0);
                    break;
                case THEFT:
                    steal(number, night);
                    break;
                default:
                    breakPig(number, night);
                    break;
            }
        }

        private boolean goesIn(Table drops, int number, int night) {
            int hope = drops.get(number, DROP_HOPE);
            int pig = drops.get(number, DROP_PIG);
            if (!wouldFit(hope, pig)) {
                return false;
            }
            int size = town.hopes.get(hope, SIZE);
            int among = Integer.bitCount(at(inside, pig));
            int roomBehind = at(spares, pig) - size;
            set(volume, hope, loudness(town.headNumber(LAW), town.hopes.get(hope, LOUD), among, roomBehind));
            set(fell, hope, night);
            set(into, hope, pig);
            set(spares, pig, roomBehind);
            set(inside, pig, at(inside, pig) | 1 << hope);
            return true;
        }

        /** Whether a hope would go into a pig as things stand. */
        boolean wouldFit(int hope, int pig) {
            if (!town.hopes.has(hope) || !town.pigs.has(pig) || at(fell, hope) != NONE || hasBit(broken, pig)) {
                return false;
            }
            int size = town.hopes.get(hope, SIZE);
            return size <= town.pigs.get(pig, SLOT) && size <= at(spares, pig);
        }

        private void steal(int thief, int night) {
            int pig = town.thieves.get(thief, THIEF_PIG);
            if (!hasBit(coming, thief) || !town.pigs.has(pig)) {
                return;
            }
            int hope = leastWithin(pig, town.thieves.get(thief, THIEF_FINGERS));
            if (hope == NONE) {
                return;
            }
            set(took, thief, hope);
            set(gone, hope, night);
            set(how, hope, STOLEN);
            set(spares, pig, at(spares, pig) + town.hopes.get(hope, SIZE));
            set(inside, pig, at(inside, pig) & ~(1 << hope));
        }

        private int leastWithin(int pig, int fingers) {
            int least = NONE;
            int leastSize = fingers + 1;
            int held = at(inside, pig);
            for (int h = 0; h < town.hopes.size; h++) {
                int size = town.hopes.get(h, SIZE);
                if (hasBit(held, h) && size < leastSize) {
                    least = h;
                    leastSize = size;
                }
            }
            return least;
        }

        private void breakPig(int act, int night) {
            int pig = town.acts.get(act, DROP_PIG);
            if (!breaking || !town.pigs.has(pig)) {
                return;
            }
            int held = at(inside, pig);
            for (int h = 0; h < town.hopes.size; h++) {
                if (hasBit(held, h)) {
                    set(gone, h, night);
                    set(how, h, BROKEN_OUT);
                }
            }
            set(results, act, held);
            set(inside, pig, 0);
            broken = broken | 1 << pig;
        }
    }

    /** What can be seen of a course at the ends of its nights. */
    private static final class Look {
        private final Town town;
        private final Play play;

        Look(Town town, Play play) {
            this.town = town;
            this.play = play;
        }

        int placeOf(int hope, int night) {
            int fell = at(play.fell, hope);
            if (fell == NONE || night < fell) {
                return OUTSIDE;
            }
            int gone = at(play.gone, hope);
            return gone == NONE || night < gone ? at(play.into, hope) : at(play.how, hope);
        }

        /** The hopes at a place at the end of a night, as bits: a pig or one of the other places. */
        int hopesAt(int place, int night) {
            int bits = 0;
            for (int h = 0; h < town.hopes.size; h++) {
                if (placeOf(h, night) == place) {
                    bits = bits | 1 << h;
                }
            }
            return bits;
        }

        int setIn(int pig, int night) {
            return hopesAt(pig, night);
        }

        int hopesHeard(int least, int greatest) {
            int bits = 0;
            for (int h = 0; h < town.hopes.size; h++) {
                int volume = at(play.volume, h);
                if (volume >= least && volume <= greatest) {
                    bits = bits | 1 << h;
                }
            }
            return bits;
        }

        private int sumIn(int pig, int night, int what) {
            int sum = 0;
            for (int h = 0; h < town.hopes.size; h++) {
                if (placeOf(h, night) == pig) {
                    sum += town.hopes.get(h, what);
                }
            }
            return sum;
        }

        int load(int pig, int night) {
            return sumIn(pig, night, SIZE);
        }

        int spare(int pig, int night) {
            return town.pigs.get(pig, ROOM) - load(pig, night);
        }

        int noise(int pig, int night) {
            return Math.min(sumIn(pig, night, LOUD), spare(pig, night));
        }

        int hopeValue(int hope, int night) {
            return placeOf(hope, night) < 0 ? 0 : town.hopes.get(hope, WORTH) + night - at(play.fell, hope);
        }

        int pigValue(int pig, int night) {
            int sum = 0;
            for (int h = 0; h < town.hopes.size; h++) {
                if (placeOf(h, night) == pig) {
                    sum += town.hopes.get(h, WORTH) + night - at(play.fell, h);
                }
            }
            return sum;
        }

        int townValue(int night) {
            int sum = 0;
            for (int h = 0; h < town.hopes.size; h++) {
                sum += hopeValue(h, night);
            }
            return sum;
        }

        int bestNight(int pig) {
            int nights = town.headNumber(NIGHTS);
            int best = 0;
            int bestValue = 0;
            for (int night = 0; night < nights; night++) {
                int value = pigValue(pig, night);
                if (value > bestValue) {
                    best = night;
                    bestValue = value;
                }
            }
            return best;
        }

        int pigsEmpty(int night) {
            int bits = 0;
            for (int p = 0; p < town.pigs.size; p++) {
                if (setIn(p, night) == 0) {
                    bits = bits | 1 << p;
                }
            }
            return bits;
        }

        int heaviest(int night) {
            int pig = NONE;
            int heaviest = 0;
            for (int p = 0; p < town.pigs.size; p++) {
                int load = load(p, night);
                if (load > heaviest) {
                    pig = p;
                    heaviest = load;
                }
            }
            return pig;
        }

        int noisiest(int night) {
            int pig = NONE;
            int noisiest = 0;
            for (int p = 0; p < town.pigs.size; p++) {
                int noise = noise(p, night);
                if (noise > noisiest) {
                    pig = p;
                    noisiest = noise;
                }
            }
            return pig;
        }

        int longestIn(int pig, int night) {
            int hope = NONE;
            int earliest = MOST_NIGHTS;
            for (int h = 0; h < town.hopes.size; h++) {
                int fell = at(play.fell, h);
                if (placeOf(h, night) == pig && fell < earliest) {
                    hope = h;
                    earliest = fell;
                }
            }
            return hope;
        }

        int leastIn(int pig, int night) {
            int hope = NONE;
            int least = HUGE;
            for (int h = 0; h < town.hopes.size; h++) {
                int size = town.hopes.get(h, SIZE);
                if (placeOf(h, night) == pig && size < least) {
                    hope = h;
                    least = size;
                }
            }
            return hope;
        }

        int mostInOne() {
            int nights = town.headNumber(NIGHTS);
            int most = 0;
            for (int night = 0; night < nights; night++) {
                for (int p = 0; p < town.pigs.size; p++) {
                    most = Math.max(most, Integer.bitCount(setIn(p, night)));
                }
            }
            return most;
        }

        int loudestFall(int pig) {
            int loudest = NONE;
            for (int h = 0; h < town.hopes.size; h++) {
                if (placeOf(h, at(play.fell, h)) == pig) {
                    loudest = Math.max(loudest, at(play.volume, h));
                }
            }
            return loudest;
        }

        int leastSpare(int pig) {
            int nights = town.headNumber(NIGHTS);
            int least = HUGE;
            for (int night = 0; night < nights; night++) {
                least = Math.min(least, spare(pig, night));
            }
            return least;
        }

        int firstFull(int pig) {
            int nights = town.headNumber(NIGHTS);
            for (int night = 0; night < nights; night++) {
                if (spare(pig, night) == 0) {
                    return night;
                }
            }
            return NONE;
        }

        int pigsRobbed() {
            int bits = 0;
            for (int t = 0; t < town.thieves.size; t++) {
                int pig = town.thieves.get(t, THIEF_PIG);
                if (at(play.took, t) != NONE && town.pigs.has(pig)) {
                    bits = bits | 1 << pig;
                }
            }
            return bits;
        }
    }

    /** What would be, were something else than it is: courses played besides, and years by chance. */
    private static final class Trials {
        private final Town town;
        private final Play play;
        private final Look look;
        private long above;
        private long below;

        Trials(Town town) {
            this.town = town;
            play = new Play(town);
            look = new Look(town, play);
            below = 1;
        }

        void playWith(int coming, boolean breaking) {
            play.choose(coming, breaking);
            play.playTo(MOST_NIGHTS, BREAK);
        }

        int wouldGoIn(int pig, int night) {
            play.choose(ALL_COME, true);
            play.playTo(night, ACT_DROP);
            int bits = 0;
            for (int h = 0; h < town.hopes.size; h++) {
                if (play.wouldFit(h, pig)) {
                    bits = bits | 1 << h;
                }
            }
            return bits;
        }

        int leastRoom(int pig) {
            int due = toldInto(pig);
            play.choose(ALL_COME, true);
            for (int room = 1; room <= MOST_ROOM; room++) {
                play.giveRoom(pig, room);
                play.playTo(MOST_NIGHTS, BREAK);
                if ((due & ~play.wentIn) == 0) {
                    return room;
                }
            }
            return NONE;
        }

        private int toldInto(int pig) {
            int bits = 0;
            for (int i = 0; i < town.told.size; i++) {
                if (town.told.get(i, DROP_PIG) == pig) {
                    bits = bits | 1 << i;
                }
            }
            return bits;
        }

        int thiefToWard() {
            playWith(ALL_COME, true);
            int greatest = look.townValue(town.lastNight());
            int thief = NONE;
            for (int t = 0; t < town.thieves.size; t++) {
                playWith(ALL_COME & ~(1 << t), true);
                int value = look.townValue(town.lastNight());
                if (value > greatest) {
                    thief = t;
                    greatest = value;
                }
            }
            return thief;
        }

        private int nightChosen(int pig, int choice) {
            return choice == 1 ? look.bestNight(pig) : town.lastNight();
        }

        int payOff(int pig, int other, int x, int y) {
            int night = nightChosen(pig, x);
            int value = look.pigValue(pig, night);
            return night == nightChosen(other, y) ? value - PENALTY : value;
        }

        int pairsAtRest(int pig, int other) {
            playWith(ALL_COME, false);
            int bits = 0;
            for (int x = 0; x <= 1; x++) {
                for (int y = 0; y <= 1; y++) {
                    boolean firstRests = payOff(pig, other, x, y) >= payOff(pig, other, 1 - x, y);
                    boolean otherRests = payOff(other, pig, y, x) >= payOff(other, pig, 1 - y, x);
                    if (firstRests && otherRests) {
                        bits = bits | 1 << (x + 2 * y);
                    }
                }
            }
            return bits;
        }

        void weighHope(int hope, int night) {
            weigh(hope, NONE, night);
        }

        void weighPig(int pig, int night) {
            weigh(NONE, pig, night);
        }

        /** Thieves of later nights change nothing to the end of this one, so only the others are told apart. */
        private void weigh(int hope, int pig, int night) {
            int mattering = thievesTo(night);
            int odds = town.headNumber(ODDS);
            above = 0;
            below = power(TEN, Integer.bitCount(mattering));
            int subsets = 1 << town.thieves.size;
            for (int coming = 0; coming < subsets; coming++) {
                int staying = mattering & ~coming;
                long share = power(odds, Integer.bitCount(coming)) * power(TEN - odds, Integer.bitCount(staying));
                if ((coming & ~mattering) == 0 && share != 0) {
                    play.choose(coming, true);
                    play.playTo(night, BREAK);
                    above += share * measure(hope, pig, night);
                }
            }
        }

        private int measure(int hope, int pig, int night) {
            if (hope == NONE) {
                return look.pigValue(pig, night);
            }
            return look.placeOf(hope, night) >= 0 ? 1 : 0;
        }

        private int thievesTo(int night) {
            int bits = 0;
            for (int t = 0; t < town.thieves.size; t++) {
                if (town.thieves.get(t, THIEF_NIGHT) <= night) {
                    bits = bits | 1 << t;
                }
            }
            return bits;
        }

        private static long power(int base, int times) {
            long product = 1;
            for (int i = 0; i < times; i++) {
                product *= base;
            }
            return product;
        }

        int fraction(int what) {
            long divisor = commonDivisor(above, below);
            if (divisor == 0) {
                return what;
            }
            return (int) (what == 0 ? above / divisor : below / divisor);
        }

        private static long commonDivisor(long a, long b) {
            long greater = a;
            long less = b;
            for (int i = 0; i < 200 && less != 0; i++) {
                long rest = greater % less;
                greater = less;
                less = rest;
            }
            return greater;
        }

        int comers(int seed) {
            int odds = town.headNumber(ODDS);
            int bits = 0;
            long x = seed;
            for (int t = 0; t < town.thieves.size; t++) {
                x = (1103515245L * x + 12345L) % 2147483648L;
                if (x / 65536L % 10L < odds) {
                    bits = bits | 1 << t;
                }
            }
            return bits;
        }

        int valueDrawn(int seed) {
            playWith(comers(seed), true);
            return look.townValue(town.lastNight());
        }

        int yearsStolen(int seed, int n, int hope) {
            int years = 0;
            for (int i = 0; i < n; i++) {
                playWith(comers(seed + i), true);
                if (at(play.how, hope) == STOLEN) {
                    years++;
                }
            }
            return years;
        }
    }

    /** All sets of the town's hopes, as bits, with what they weigh and are worth together. */
    private static final class Sets {
        private final Town town;
        private final int[] weights = new int[MOST_SETS];
        private final int[] worths = new int[MOST_SETS];
        int whole;

        Sets(Town town) {
            this.town = town;
        }

        void fill() {
            whole = firstBits(town.hopes.size);
            for (int s = 1; s <= whole; s++) {
                int hope = Integer.numberOfTrailingZeros(s);
                int rest = s & (s - 1);
                set(weights, s, at(weights, rest) + town.hopes.get(hope, SIZE));
                set(worths, s, at(worths, rest) + town.hopes.get(hope, WORTH));
            }
        }

        int weightOf(int s) {
            return at(weights, s);
        }

        int worthOf(int s) {
            return at(worths, s);
        }

        int noGreaterThan(int size) {
            int bits = 0;
            for (int h = 0; h < town.hopes.size; h++) {
                if (town.hopes.get(h, SIZE) <= size) {
                    bits = bits | 1 << h;
                }
            }
            return bits;
        }

        int howManyWeigh(int within, int n) {
            int many = 0;
            for (int s = 0; s <= whole; s++) {
                if ((s & ~within) == 0 && at(weights, s) == n) {
                    many++;
                }
            }
            return many;
        }

        int fewestThatWeigh(int within, int n) {
            int found = NONE;
            int fewest = HUGE;
            for (int s = 0; s <= whole; s++) {
                if ((s & ~within) == 0 && at(weights, s) == n && Integer.bitCount(s) < fewest) {
                    found = s;
                    fewest = Integer.bitCount(s);
                }
            }
            return found;
        }
    }

    /** What fits into all pigs; kept until the town changes, since it is dear to find. */
    private static final class Packing {
        private final Town town;
        private final Sets sets;
        private final int[] reached = new int[MOST_SETS];
        private final int[] fixed = new int[MOST_PIGS];
        final int[] choice = new int[MOST_HOPES];
        int greatest;
        int highest;
        private boolean settled;

        Packing(Town town, Sets sets) {
            this.town = town;
            this.sets = sets;
        }

        void forget() {
            settled = false;
        }

        void settle() {
            if (settled) {
                return;
            }
            sets.fill();
            Arrays.fill(fixed, 0);
            Arrays.fill(choice, NONE);
            reach(sets.whole);
            greatest = 0;
            highest = 0;
            for (int s = 0; s <= sets.whole; s++) {
                if (at(reached, s) == 1) {
                    greatest = Math.max(greatest, sets.worthOf(s));
                    highest = Math.max(highest, Integer.bitCount(s));
                }
            }
            int fixedWorth = 0;
            for (int h = 0; h < town.hopes.size; h++) {
                fixedWorth += fix(h, fixedWorth);
            }
            settled = true;
        }

        /** Marks each set of free hopes that the pigs hold together beside the fixed ones. */
        private void reach(int free) {
            Arrays.fill(reached, 0);
            set(reached, 0, 1);
            for (int p = 0; p < town.pigs.size; p++) {
                spread(p, free & sets.noGreaterThan(town.pigs.get(p, SLOT)));
            }
        }

        /**
         * From the greatest set down, so that what this pig adds is not taken for what was reached ahead of it; and from
         * the greatest part of the rest down to none, each less than the one ahead of it.
         */
        private void spread(int pig, int free) {
            int room = town.pigs.get(pig, ROOM) - sets.weightOf(at(fixed, pig));
            for (int s = sets.whole; s >= 0; s--) {
                if (at(reached, s) == 1) {
                    int rest = free & ~s;
                    for (int more = rest; more > 0; more = (more - 1) & rest) {
                        if (sets.weightOf(more) <= room) {
                            set(reached, s | more, 1);
                        }
                    }
                }
            }
        }

        /** The first choice for a hope by which the greatest worth can still be had: answers what it brings. */
        private int fix(int hope, int fixedWorth) {
            int free = sets.whole & ~firstBits(hope + 1);
            if (canBring(free, greatest - fixedWorth)) {
                return 0;
            }
            int size = town.hopes.get(hope, SIZE);
            int worth = town.hopes.get(hope, WORTH);
            for (int p = 0; p < town.pigs.size; p++) {
                int held = at(fixed, p);
                int more = held | 1 << hope;
                if (size <= town.pigs.get(p, SLOT) && sets.weightOf(more) <= town.pigs.get(p, ROOM)) {
                    set(fixed, p, more);
                    if (canBring(free, greatest - fixedWorth - worth)) {
                        set(choice, hope, p);
                        return worth;
                    }
                    set(fixed, p, held);
                }
            }
            return 0;
        }

        private boolean canBring(int free, int wanted) {
            if (sets.worthOf(free) < wanted) {
                return false;
            }
            reach(free);
            for (int s = 0; s <= sets.whole; s++) {
                if (at(reached, s) == 1 && sets.worthOf(s) == wanted) {
                    return true;
                }
            }
            return false;
        }
    }

    /** Rows that fall unheard: of each set that is in a pig, how far such a row goes on and in how many ways. */
    private static final class Hush {
        private final Town town;
        private final Sets sets;
        final int[] longest = new int[MOST_SETS];
        final int[] ways = new int[MOST_SETS];
        private int filled;

        Hush(Town town, Sets sets) {
            this.town = town;
            this.sets = sets;
        }

        void fill(int pig) {
            filled = pig;
            sets.fill();
            for (int s = sets.whole; s >= 0; s--) {
                goOn(s);
            }
        }

        private void goOn(int s) {
            int length = 0;
            int many = 1;
            for (int h = 0; h < town.hopes.size; h++) {
                if (fallsUnheard(h, s)) {
                    int behind = at(longest, s | 1 << h) + 1;
                    int manyBehind = at(ways, s | 1 << h);
                    if (behind > length) {
                        length = behind;
                        many = manyBehind;
                    } else if (behind == length) {
                        many += manyBehind;
                    }
                }
            }
            set(longest, s, length);
            set(ways, s, many);
        }

        private boolean fallsUnheard(int hope, int among) {
            int size = town.hopes.get(hope, SIZE);
            int roomBehind = town.pigs.get(filled, ROOM) - sets.weightOf(among) - size;
            if (hasBit(among, hope) || size > town.pigs.get(filled, SLOT) || roomBehind < 0) {
                return false;
            }
            int loud = town.hopes.get(hope, LOUD);
            int volume = loudness(town.headNumber(LAW), loud, Integer.bitCount(among), roomBehind);
            return volume <= town.headNumber(QUIET);
        }

        int hopeAt(int i) {
            int among = 0;
            for (int k = 0; k < MOST_HOPES; k++) {
                int hope = nextBehind(among);
                if (k == i || hope == NONE) {
                    return hope;
                }
                among = among | 1 << hope;
            }
            return NONE;
        }

        private int nextBehind(int among) {
            int wanted = at(longest, among) - 1;
            for (int h = 0; h < town.hopes.size; h++) {
                if (fallsUnheard(h, among) && at(longest, among | 1 << h) == wanted) {
                    return h;
                }
            }
            return NONE;
        }
    }

    /** Four places for rows of numbers, each row of one width. */
    private static final class Slots {
        private final long[][] numbers = new long[SLOTS][MOST_NUMBERS];
        private final int[] widths = new int[SLOTS];
        private final int[] lengths = new int[SLOTS];

        Slots() {
            Arrays.fill(widths, NONE);
        }

        boolean exists(int slot) {
            return slot >= 0 && slot < numbers.length;
        }

        boolean hasRow(int slot) {
            return at(widths, slot) != NONE;
        }

        int widthOf(int slot) {
            return at(widths, slot);
        }

        int lengthOf(int slot) {
            return hasRow(slot) ? at(lengths, slot) : 0;
        }

        int howManyHaveRows() {
            int many = 0;
            for (int slot = 0; slot < SLOTS; slot++) {
                if (hasRow(slot)) {
                    many++;
                }
            }
            return many;
        }

        void lay(int slot, int width, int n) {
            if (exists(slot)) {
                Arrays.fill(numbers[slot], 0L);
                set(widths, slot, width);
                set(lengths, slot, n);
            }
        }

        boolean put(int slot, int i, long v) {
            if (!exists(slot) || i < 0 || i >= lengthOf(slot) || i >= numbers[slot].length) {
                return false;
            }
            numbers[slot][i] = cut(v, widthOf(slot));
            return true;
        }

        private static long cut(long v, int width) {
            switch (width) {
                case 0: return (byte) v;
                case 1: return (short) v;
                case 2: return (int) v;
                default: return v;
            }
        }

        long read(int slot, int i) {
            if (!exists(slot) || i < 0 || i >= lengthOf(slot) || i >= numbers[slot].length) {
                return NONE;
            }
            return numbers[slot][i];
        }

        boolean holds(int slot, int from, int n) {
            return from >= 0 && n >= 0 && (long) from + n <= lengthOf(slot);
        }

        void move(int slot, int i, int to, int k, int n) {
            if (exists(slot) && exists(to) && holds(slot, i, n) && holds(to, k, n)) {
                System.arraycopy(numbers[slot], i, numbers[to], k, n);
            }
        }
    }

    /** The sets that may be in a pig by what came out of it, tilt by tilt. */
    private static final class Tilting {
        private final Town town;
        private final Sets sets;
        private final Slots slots;
        private final int[] fitting = new int[MOST_SETS];
        private final int[] parts = new int[MOST_HOPES + 1];
        int size;

        Tilting(Town town, Sets sets, Slots slots) {
            this.town = town;
            this.sets = sets;
            this.slots = slots;
        }

        /** Collects the sets: 0, or why they can't be. */
        int collect(int slot, int pig) {
            size = 0;
            if (!slots.exists(slot) || !town.pigs.has(pig)) {
                return MISSING;
            }
            if (!slots.hasRow(slot)) {
                return NOTHING;
            }
            if (!tellsTilts(slot)) {
                return MISSING;
            }
            sets.fill();
            int allowed = sets.noGreaterThan(town.pigs.get(pig, SLOT));
            int room = town.pigs.get(pig, ROOM);
            for (int s = 0; s <= sets.whole; s++) {
                if ((s & ~allowed) == 0 && sets.weightOf(s) <= room) {
                    set(fitting, size, s);
                    size++;
                }
            }
            for (int i = 0; i + 1 < slots.lengthOf(slot); i += 2) {
                sift((int) slots.read(slot, i), (int) slots.read(slot, i + 1));
            }
            return 0;
        }

        private boolean tellsTilts(int slot) {
            int length = slots.lengthOf(slot);
            if (length % 2 != 0) {
                return false;
            }
            for (int i = 0; i < length; i++) {
                long v = slots.read(slot, i);
                boolean isFar = i % 2 == 0;
                if (v < (isFar ? 1 : 0) || v > (isFar ? FARTHEST : MOST_HOPES)) {
                    return false;
                }
            }
            return true;
        }

        private void sift(int far, int many) {
            int reachedBy = sets.noGreaterThan(far);
            int stay = 0;
            for (int i = 0; i < size; i++) {
                int s = at(fitting, i);
                if (Integer.bitCount(s & reachedBy) == many) {
                    set(fitting, stay, s);
                    stay++;
                }
            }
            size = stay;
        }

        int inEach() {
            if (size == 0) {
                return NONE;
            }
            int bits = sets.whole;
            for (int i = 0; i < size; i++) {
                bits = bits & at(fitting, i);
            }
            return bits;
        }

        int inNone() {
            if (size == 0) {
                return NONE;
            }
            int bits = 0;
            for (int i = 0; i < size; i++) {
                bits = bits | at(fitting, i);
            }
            return sets.whole & ~bits;
        }

        int wisestTilt() {
            int wisest = NONE;
            int fewest = size;
            for (int far = 1; far <= FARTHEST; far++) {
                int worst = leftAtWorst(far);
                if (worst < fewest) {
                    wisest = far;
                    fewest = worst;
                }
            }
            return wisest;
        }

        /** How many sets stay at worst behind one tilt more; behind none all do. */
        int leftAtWorst(int far) {
            if (far == NONE) {
                return size;
            }
            int reachedBy = sets.noGreaterThan(far);
            Arrays.fill(parts, 0);
            int worst = 0;
            for (int i = 0; i < size; i++) {
                int many = Integer.bitCount(at(fitting, i) & reachedBy);
                int part = at(parts, many) + 1;
                set(parts, many, part);
                worst = Math.max(worst, part);
            }
            return worst;
        }
    }
}
