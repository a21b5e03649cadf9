/** Edges of what is done: acts, rates, images and slots: the SLOTS' terms, promises 60 to 63, 66, 68 to 72. */
final class ActEdges {
    private static final String TOWN = Tell.town(3, 0, 0, 5) + Tell.pig(5, 4) + Tell.pig(9, 9) + Tell.hope(4, 1, 10)
        + Tell.hope(5, 1, 20) + Tell.hope(1, 1, 30) + Tell.drop(0, 0, 1) + Tell.thief(2, 0, 1);
    /* Hopes of sizes 1 to 8: a tilt so far lets so many out. */
    private static final String EIGHT = Tell.town(1, 0, 0, 0) + Tell.pig(60, 9) + Tell.hope(1, 0, 0)
        + Tell.hope(2, 0, 0) + Tell.hope(3, 0, 0) + Tell.hope(4, 0, 0) + Tell.hope(5, 0, 0) + Tell.hope(6, 0, 0)
        + Tell.hope(7, 0, 0) + Tell.hope(8, 0, 0);

    private ActEdges() {
    }

    static void all() {
        drops();
        breaks();
        thirty();
        undo();
        rate();
        image();
        imagesApart();
        slots();
        row();
        write();
        widths();
        paste();
        pasteRefused();
        order();
    }

    private static void drops() {
        Doc.at(60);
        HopeBank bank = Check.bankOf(TOWN);
        Doc.edge("A HOPE is dropped into a PIG at a NIGHT, behind all told: 1 if it goes in", bank.drops(2, 0, 1), 1);
        Doc.edges("A HOPE is dropped into a PIG at a NIGHT", new int[] {bank.where(2, 0), bank.where(2, 1),
            bank.where(2, 2)}, -10, 0, -11);
        Doc.edge("else 0 (it is an act all the same)", bank.drops(1, 0, 2), 0);
        Doc.edge("else 0 (it is an act all the same)", bank.count(8), 2);
        Doc.edge("behind all told", bank.drops(0, 1, 1), 0);
        Doc.edge("1 if it goes in", bank.drops(0, 1, 0), 1);
        Doc.edges("1 if it goes in", new int[] {bank.where(0, 0), bank.misses(), bank.count(8)}, 1, 1, 4);
        // It goes in at night 0, and of an earlier act for a later night no more is true.
        Doc.edge("1 if it goes in", bank.drops(2, 1, 0), 1);
        Doc.edge("1 if it goes in", bank.where(2, 2), 1);
        Wrong.three("-2: there are none such", bank::drops, 3, 2, 3);
        Doc.edge("-2: there are none such", bank.count(8), 5);
        Doc.edge("-2: there are none such", new HopeBank().drops(0, 0, 0), -2);
    }

    private static void breaks() {
        Doc.at(61);
        HopeBank bank = Check.bankOf(TOWN);
        bank.drops(2, 0, 2);
        String words = "A PIG is broken at a NIGHT: HOPES that are got by it, as bits";
        // The thief takes hope 2 ahead of it.
        Doc.edge(words, bank.breaks(0, 2), 1);
        Doc.edge(words, bank.breaks(0, 1), 1);
        Doc.edge(words, bank.breaks(0, 0), 0);
        Doc.edge(words, bank.breaks(1, 2), 0);
        Doc.edge(words, bank.count(8), 5);
        Doc.edges(words, new int[] {bank.where(0, 2), bank.where(2, 2)}, -10, -10);
        Wrong.two("-2, -5 likewise", bank::breaks, 2, 3);
        Doc.edge("-2, -5 likewise", bank.count(8), 5);
        Doc.edge("-2, -5 likewise", new HopeBank().breaks(0, 0), -2);
    }

    private static void thirty() {
        HopeBank bank = Check.bankOf(TOWN);
        Doc.at(60);
        for (int i = 0; i < 29; i++) {
            Doc.edge("1 if it goes in, else 0", bank.drops(1, 0, 0), 0);
        }
        Doc.edge("-5: there were 30 acts", bank.drops(2, 1, 0), 1);
        Doc.edge("-5: there were 30 acts", bank.drops(0, 1, 0), -5);
        Doc.edge("-5: there were 30 acts", bank.count(8), 30);
        Doc.edge("-5: there were 30 acts", bank.where(0, 0), -10);
        Doc.at(61);
        Doc.edge("-2, -5 likewise", bank.breaks(0, 1), -5);
        Doc.edge("-2, -5 likewise", bank.where(0, 1), 0);
        Doc.at("SLOTS");
        Doc.edges("-2 is asked ahead of -5, -6", new int[] {bank.drops(3, 0, 0), bank.drops(0, 2, 0),
            bank.drops(0, 0, 3), bank.breaks(2, 0), bank.breaks(0, -1), bank.rate(3, 0), bank.rate(0, 81),
            bank.rate(0, 0)}, -2, -2, -2, -2, -2, -2, -2, -5);
        bank.undo();
        Doc.at(61);
        Doc.edge("A PIG is broken at a NIGHT", bank.breaks(0, 1), 1);
        Doc.edge("-2, -5 likewise", bank.breaks(0, 1), -5);
        Doc.at(63);
        Doc.edge("All are: how many there were", bank.anew(), 30);
        fullTown();
    }

    /** As many drops, thieves and acts as there may be, all in one night: the last act of all still happens. */
    private static void fullTown() {
        HopeBank bank = Check.bankOf(Tell.town(20, 0, 0, 5) + Tell.pig(60, 9) + Tell.hope(9, 9, 80) + Tell.hope(8, 9, 7)
            + Tell.drop(0, 0, 19).repeat(10) + Tell.thief(19, 0, 7).repeat(6));
        Doc.at(60);
        for (int i = 0; i < 28; i++) {
            Doc.edge("it is an act all the same", bank.drops(0, 0, 19), 0);
        }
        Doc.edge("1 if it goes in", bank.drops(1, 0, 19), 1);
        Doc.at(61);
        Doc.edge("HOPES that are got by it, as bits", bank.breaks(0, 19), 3);
        Doc.edges("HOPES that are got by it, as bits", new int[] {bank.got(19), bank.misses(), bank.out()},
            87, 1022, 0);
        Doc.at(62);
        Doc.edge("how many there are", bank.undo(), 29);
        Doc.edge("The latest act is taken back", bank.within(0, 19), 3);
    }

    private static void undo() {
        HopeBank bank = Check.bankOf(TOWN);
        Doc.at(62);
        Doc.edge("-5: there is none", bank.undo(), -5);
        Doc.at(63);
        Doc.edge("All are: how many there were", bank.anew(), 0);
        Doc.at(62);
        bank.drops(2, 0, 1);
        bank.breaks(0, 1);
        bank.drops(1, 0, 0);
        Doc.edge("The latest act is taken back: how many there are", bank.undo(), 2);
        Doc.edge("The latest act is taken back", bank.where(0, 1), -12);
        Doc.edge("The latest act is taken back: how many there are", bank.undo(), 1);
        Doc.edges("The latest act is taken back", new int[] {bank.where(0, 1), bank.where(2, 1)}, 0, 0);
        Doc.edge("The latest act is taken back: how many there are", bank.undo(), 0);
        Doc.edge("The latest act is taken back", bank.where(2, 1), -10);
        Doc.edge("-5: there is none", bank.undo(), -5);
        Doc.edge("-2: there is no TOWN", new HopeBank().undo(), -2);
        Doc.at(63);
        bank.drops(2, 0, 1);
        bank.breaks(0, 1);
        Doc.edge("All are: how many there were", bank.anew(), 2);
        Doc.edges("All are", new int[] {bank.count(8), bank.where(0, 2), bank.where(2, 2), bank.undo()}, 0, 0, -10, -5);
        Doc.edge("-2 likewise", new HopeBank().anew(), -2);
        // Behind town() of no LINE there is none either.
        bank.town();
        Doc.edge("-2 likewise", bank.anew(), -2);
    }

    private static void rate() {
        Doc.at(66);
        HopeBank bank = Check.bankOf(TOWN);
        Doc.edge("worth of a HOPE is n (0 .. 80) from now on: what it was", bank.rate(0, 80), 10);
        Doc.edges("from now on", new int[] {bank.hope(0, 2), bank.value(0, 1), bank.rich(0, 2), bank.hope(1, 2)},
            80, 80, 81, 20);
        Doc.edge("worth of a HOPE is n (0 .. 80) from now on: what it was", bank.rate(0, 0), 80);
        Doc.edge("worth of a HOPE is n (0 .. 80) from now on: what it was", bank.rate(0, 3), 0);
        Doc.edges("-2: there are none such", new int[] {bank.rate(0, 81), bank.rate(0, -1), bank.rate(3, 0),
            bank.rate(-1, 0), bank.rate(Integer.MAX_VALUE, 0), bank.rate(0, Integer.MIN_VALUE),
            new HopeBank().rate(0, 0)}, -2, -2, -2, -2, -2, -2, -2);
        Doc.edge("-2: there are none such", bank.hope(0, 2), 3);
        bank.drops(1, 0, 0);
        Doc.edge("-5: there are acts that are not taken back", bank.rate(0, 4), -5);
        Doc.edge("-5: there are acts that are not taken back", bank.hope(0, 2), 3);
        bank.undo();
        Doc.edge("worth of a HOPE is n", bank.rate(0, 4), 3);
        bank.breaks(0, 0);
        Doc.edge("-5: there are acts that are not taken back", bank.rate(0, 5), -5);
        bank.anew();
        Doc.edge("worth of a HOPE is n", bank.rate(0, 5), 4);
    }

    private static void image() {
        HopeBank bank = Check.bankOf(TOWN);
        Doc.at(69);
        Doc.edges("-6: it has nothing", new int[] {bank.back(0), bank.back(1), bank.back(2)}, -6, -6, -6);
        Wrong.one("-2: no such k", bank::back, 3);
        Doc.at(68);
        bank.drops(2, 0, 1);
        Doc.edge("IMAGE k (0 .. 2) keeps the TOWN, and acts: 0", bank.image(2), 0);
        Wrong.one("-2: no such k", bank::image, 3);
        Doc.at(69);
        Doc.edges("-6: it has nothing", new int[] {bank.back(0), bank.back(1)}, -6, -6);
        bank.breaks(0, 1);
        Doc.at(68);
        Doc.edge("IMAGE k (0 .. 2) keeps the TOWN, and acts: 0", bank.image(0), 0);
        bank.anew();
        bank.rate(0, 77);
        Doc.edge("IMAGE k (0 .. 2) keeps the TOWN, and acts: 0", bank.image(1), 0);
        Doc.at(69);
        Doc.edge("It is as IMAGE k has it: 0", bank.back(2), 0);
        Doc.edges("It is as IMAGE k has it", new int[] {bank.count(8), bank.where(2, 1), bank.where(0, 1),
            bank.hope(0, 2)}, 1, 0, 0, 10);
        Doc.edge("It is as IMAGE k has it: 0", bank.back(0), 0);
        Doc.edges("It is as IMAGE k has it", new int[] {bank.count(8), bank.where(0, 1), bank.hope(0, 2), bank.undo()},
            2, -12, 10, 1);
        // What is done then is not done in the image, nor by it.
        Doc.edge("It is as IMAGE k has it: 0", bank.back(0), 0);
        Doc.edge("It is as IMAGE k has it", bank.count(8), 2);
        Doc.edge("It is as IMAGE k has it: 0", bank.back(1), 0);
        Doc.edges("It is as IMAGE k has it", new int[] {bank.count(8), bank.hope(0, 2), bank.packs()}, 0, 77, 127);
    }

    /** What an image does not keep: the tape, the fault, the slots. An image is there for no town, too. */
    private static void imagesApart() {
        Doc.at(68);
        HopeBank bank = new HopeBank();
        Doc.edge("keeps the TOWN, and acts", bank.image(0), 0);
        Check.feed(bank, TOWN);
        bank.town();
        bank.image(1);
        bank.row(0, 0, 3);
        Check.feed(bank, "town nights 99");
        bank.town();
        bank.end(0);
        Check.feed(bank, "abc");
        Doc.at(69);
        Doc.edge("It is as IMAGE k has it: 0", bank.back(0), 0);
        Doc.edges("It is as IMAGE k has it", new int[] {bank.count(9), bank.count(10), bank.count(11), bank.fault(0),
            bank.fault(1), bank.misses(), bank.pig(0, 0)}, 0, 3, 1, 2, 12, -2, -2);
        Doc.edge("It is as IMAGE k has it: 0", bank.back(1), 0);
        Doc.edges("It is as IMAGE k has it", new int[] {bank.count(9), bank.count(10), bank.count(11),
            bank.where(0, 1)}, 8, 3, 1, 0);
        // In place of an older one.
        Doc.at(68);
        bank.breaks(0, 0);
        Doc.edge("IMAGE k (0 .. 2) keeps the TOWN, and acts: 0", bank.image(0), 0);
        bank.anew();
        bank.back(0);
        Doc.edge("keeps the TOWN, and acts", bank.count(8), 1);
    }

    private static void slots() {
        Doc.at("SLOTS");
        HopeBank bank = Check.bankOf(EIGHT);
        Doc.edges("SLOTS 0 .. 3", new int[] {bank.row(-1, 0, 1), bank.row(0, 0, 1), bank.row(3, 0, 1),
            bank.row(4, 0, 1)}, -2, 0, 0, -2);
        Doc.edges("(WIDTH 0 .. 3)", new int[] {bank.row(0, -1, 1), bank.row(0, 0, 1), bank.row(0, 3, 1),
            bank.row(0, 4, 1)}, -2, 0, 0, -2);
        Doc.edges("at most 60", new int[] {bank.row(0, 0, 60), bank.row(0, 0, 61)}, 0, -2);
        Doc.edges("or nothing", new int[] {bank.write(1, 0, 0), bank.tilts(1, 0), bank.paste(1, 0, 1, 0, 0)},
            -6, -6, -6);
        Doc.edges("-2 is asked ahead of -5, -6", new int[] {bank.tilts(1, 1), bank.surely(1, 1), bank.never(1, -1),
            bank.ask(1, 1), bank.leaves(1, 1), bank.paste(1, 0, 4, 0, 0), bank.paste(-1, 0, 1, 0, 0)},
            -2, -2, -2, -2, -2, -2, -2);
    }

    private static void row() {
        Doc.at(70);
        HopeBank bank = Check.bankOf(EIGHT);
        Doc.edge("A SLOT (0 .. 3) has a row of n numbers of a WIDTH, all 0 (in place of another one): 0",
            bank.row(0, 0, 60), 0);
        Doc.edges("has a row of n numbers", new int[] {bank.write(0, 59, 1), bank.write(0, 60, 1)}, 0, -7);
        Doc.edge("(in place of another one)", bank.row(0, 0, 4), 0);
        Doc.edges("has a row of n numbers", new int[] {bank.write(0, 3, 1), bank.write(0, 4, 1)}, 0, -7);
        Doc.edge("has a row of n numbers", bank.row(1, 3, 0), 0);
        Doc.edges("has a row of n numbers", new int[] {bank.write(1, 0, 1), bank.tilts(1, 0), bank.count(11)},
            -7, 256, 2);
        // All are 0: with far 1 and far 2 alone none comes out.
        ReckonEdges.put(bank, 0, 0, 1, 1, 2, 2);
        bank.row(0, 0, 4);
        bank.write(0, 0, 1);
        bank.write(0, 2, 2);
        Doc.edge("all 0", bank.tilts(0, 0), 64);
        bank.row(0, 0, 2);
        Doc.edge("all 0", bank.tilts(0, 0), -2);
        // A longer one behind a shorter one has no numbers of the one ahead of both.
        ReckonEdges.put(bank, 2, 3, 1, 1, 2, 2);
        bank.row(2, 3, 1);
        bank.row(2, 3, 4);
        bank.write(2, 0, 1);
        bank.write(2, 2, 2);
        Doc.edge("all 0", bank.tilts(2, 0), 64);
        Doc.edges("-2: there is no such SLOT or WIDTH (0 .. 3), or n is above 60",
            new int[] {bank.row(4, 0, 1), bank.row(-1, 0, 1), bank.row(0, 4, 1), bank.row(0, -1, 1), bank.row(0, 0, 61),
            bank.row(0, 0, Integer.MAX_VALUE), bank.row(Integer.MIN_VALUE, 0, 1), bank.row(0, Integer.MAX_VALUE, 1)},
            -2, -2, -2, -2, -2, -2, -2, -2);
        ReckonEdges.put(bank, 0, 0, 1, 1);
        Doc.edges("-3, and the SLOT stays: n is below 0", new int[] {bank.row(0, 1, -1),
            bank.row(0, 0, Integer.MIN_VALUE), bank.row(3, 0, -1)}, -3, -3, -3);
        bank.row(0, 0, 61);
        bank.row(0, 4, 2);
        Doc.edges("and the SLOT stays", new int[] {bank.tilts(0, 0), bank.surely(0, 0), bank.write(0, 1, 1),
            bank.write(0, 2, 1), bank.count(11), bank.write(3, 0, 0)}, 128, 1, 0, -7, 3, -6);
        // Its width stays, too.
        bank.row(3, 0, 2);
        Doc.edge("and the SLOT stays", bank.paste(0, 0, 3, 0, 2), 0);
        Doc.edges("-2: there is no such SLOT or WIDTH", new int[] {bank.row(4, 0, -1), bank.row(0, 4, -1)}, -2, -2);
    }

    private static void write() {
        Doc.at(71);
        HopeBank bank = Check.bankOf(EIGHT);
        Doc.edges("-2: there is no such SLOT", new int[] {bank.write(4, 0, 1), bank.write(-1, 0, 1),
            bank.write(Integer.MAX_VALUE, 0, 1)}, -2, -2, -2);
        Doc.edges("-6: it has nothing", new int[] {bank.write(0, 0, 1), bank.write(3, -1, 1)}, -6, -6);
        bank.row(0, 0, 2);
        Doc.edges("Number i of the SLOT's row is v", new int[] {bank.write(0, 0, 2), bank.write(0, 1, 2),
            bank.tilts(0, 0), bank.surely(0, 0)}, 0, 0, 64, 3);
        Doc.edges("-7: there is no such number", new int[] {bank.write(0, 2, 1), bank.write(0, -1, 1),
            bank.write(0, Integer.MAX_VALUE, 1), bank.write(0, Integer.MIN_VALUE, 1)}, -7, -7, -7, -7);
        Doc.edge("-7: there is no such number", bank.tilts(0, 0), 64);
        bank.row(1, 0, 0);
        Doc.edge("-7: there is no such number", bank.write(1, 0, 1), -7);
    }

    /** Far 2 with some bits above it, in each width: cut away or kept. */
    private static void widths() {
        Doc.at(71);
        HopeBank bank = Check.bankOf(EIGHT);
        for (int width = 0; width < 4; width++) {
            bank.row(0, width, 2);
            int bits = 8 << width;
            for (int bit = 7; bit < 64; bit++) {
                Doc.edge("cut to its WIDTH: 0", bank.write(0, 0, 1L << bit | 2), 0);
                Doc.edge("cut to its WIDTH: 0", bank.tilts(0, 0), bit < bits ? -2 : 64);
            }
            Doc.edge("cut to its WIDTH: 0", bank.write(0, 0, Long.MIN_VALUE), 0);
            Doc.edge("cut to its WIDTH: 0", bank.tilts(0, 0), -2);
        }
        Doc.at("SLOTS");
        for (int width = 0; width < 4; width++) {
            bank.row(1, width, 2);
            bank.write(1, 0, width == 3 ? 2 : 1L << (8 << width) | 2);
            Doc.edge("rows of numbers of 1, 2, 4 or 8 bytes", bank.tilts(1, 0), 64);
        }
    }

    /** Whether a slot's row is these numbers, seen by the sets that are so: in all of them, in none. */
    private static void reads(String words, HopeBank bank, int slot, int... numbers) {
        HopeBank other = Check.bankOf(EIGHT);
        ReckonEdges.put(other, 0, 0, numbers);
        Doc.edges(words, new int[] {bank.tilts(slot, 0), bank.surely(slot, 0), bank.never(slot, 0)},
            other.tilts(0, 0), other.surely(0, 0), other.never(0, 0));
        Doc.edge(words, bank.write(slot, numbers.length, 0), -7);
    }

    private static void paste() {
        Doc.at(72);
        String words = "So many numbers of a SLOT's row, from one on, are put to another one's (or its own), "
            + "from one on, as they were: 0";
        HopeBank bank = Check.bankOf(EIGHT);
        ReckonEdges.put(bank, 0, 1, 1, 1, 2, 1, 5, 4);
        ReckonEdges.put(bank, 1, 1, 8, 8, 7, 7, 6, 6);
        Doc.edge(words, bank.paste(0, 2, 1, 0, 2), 0);
        reads(words, bank, 1, 2, 1, 7, 7, 6, 6);
        reads(words, bank, 0, 1, 1, 2, 1, 5, 4);
        Doc.edge(words, bank.paste(0, 0, 1, 0, 6), 0);
        reads(words, bank, 1, 1, 1, 2, 1, 5, 4);
        Doc.edge(words, bank.paste(1, 5, 0, 1, 1), 0);
        reads(words, bank, 0, 1, 4, 2, 1, 5, 4);
        // To its own, forward and back, over one another.
        ReckonEdges.put(bank, 2, 1, 1, 1, 2, 2, 3, 3);
        Doc.edge("(or its own)", bank.paste(2, 0, 2, 2, 4), 0);
        reads("as they were", bank, 2, 1, 1, 1, 1, 2, 2);
        ReckonEdges.put(bank, 2, 1, 1, 1, 3, 2, 4, 3);
        Doc.edge("(or its own)", bank.paste(2, 2, 2, 0, 4), 0);
        reads("as they were", bank, 2, 3, 2, 4, 3, 4, 3);
        ReckonEdges.put(bank, 2, 1, 3, 2, 2, 2, 1, 1);
        Doc.edge("(or its own)", bank.paste(2, 0, 2, 1, 5), 0);
        reads("as they were", bank, 2, 3, 3, 2, 2, 2, 1);
        Doc.edge("(or its own)", bank.paste(2, 0, 2, 0, 6), 0);
        reads("as they were", bank, 2, 3, 3, 2, 2, 2, 1);
        Doc.edges("So many numbers", new int[] {bank.paste(2, 0, 0, 0, 0), bank.paste(2, 6, 0, 6, 0),
            bank.paste(2, 5, 2, 5, 1)}, 0, 0, 0);
        reads("So many numbers", bank, 0, 1, 4, 2, 1, 5, 4);
        ReckonEdges.put(bank, 0, 3, 1, 1);
        bank.row(3, 3, 60);
        Doc.edge(words, bank.paste(0, 0, 3, 58, 2), 0);
        bank.write(0, 0, 1L << 40 | 1);
        bank.row(2, 3, 2);
        bank.paste(0, 0, 2, 0, 2);
        Doc.edge("as they were", bank.tilts(2, 0), -2);
    }

    private static void pasteRefused() {
        Doc.at(72);
        HopeBank bank = Check.bankOf(EIGHT);
        ReckonEdges.put(bank, 0, 1, 1, 1, 2, 1);
        ReckonEdges.put(bank, 1, 1, 8, 8);
        ReckonEdges.put(bank, 2, 2, 8, 8);
        String beyond = "-7, and nothing happens: some are beyond their rows, or a place or n is below 0";
        int max = Integer.MAX_VALUE;
        int min = Integer.MIN_VALUE;
        int[][] far = {{0, 0, 1, 0, 3}, {0, 3, 1, 0, 2}, {0, 4, 1, 0, 1}, {0, 0, 1, 1, 2}, {0, 0, 1, 2, 1},
            {1, 0, 0, 0, 3}, {1, 1, 0, 0, 2}, {0, -1, 1, 0, 1}, {0, 0, 1, -1, 1}, {0, 0, 1, 0, -1}, {0, 2, 1, 2, -1},
            {0, -1, 1, -1, 0}, {0, max, 1, 0, 1}, {0, 0, 1, max, 1}, {0, 1, 1, 1, max}, {0, max, 1, max, max},
            {0, min, 1, 0, 1}, {0, 0, 1, min, 1}, {0, 0, 1, 0, min}, {0, 1, 0, 2, 3}, {0, 2, 0, 0, 3}, {0, 5, 1, 0, 0},
            {0, 0, 1, 3, 0}};
        for (int[] f : far) {
            Doc.edge(beyond, bank.paste(f[0], f[1], f[2], f[3], f[4]), -7);
            reads(beyond, bank, 0, 1, 1, 2, 1);
            reads(beyond, bank, 1, 8, 8);
        }
        Doc.edges("-2: there is no such SLOT", new int[] {bank.paste(4, 0, 0, 0, 1), bank.paste(-1, 0, 0, 0, 1),
            bank.paste(0, 0, 4, 0, 1), bank.paste(0, 0, -1, 0, 1), bank.paste(max, 0, min, 0, 1)}, -2, -2, -2, -2, -2);
        Doc.edges("-6: one has nothing", new int[] {bank.paste(0, 0, 3, 0, 1), bank.paste(3, 0, 0, 0, 1),
            bank.paste(3, 0, 3, 0, 0)}, -6, -6, -6);
        Doc.edges("-8: they are not of one WIDTH", new int[] {bank.paste(0, 0, 2, 0, 1), bank.paste(2, 0, 0, 0, 1),
            bank.paste(2, 0, 1, 0, 0)}, -8, -8, -8);
        reads("-8: they are not of one WIDTH", bank, 2, 8, 8);
    }

    /** The reasons of paste in the order in which they are told. */
    private static void order() {
        Doc.at(72);
        HopeBank bank = Check.bankOf(EIGHT);
        bank.row(0, 1, 2);
        bank.row(1, 2, 2);
        Doc.edge("-2: there is no such SLOT; -6: one has nothing", bank.paste(2, -1, 4, -1, -1), -2);
        Doc.edge("-6: one has nothing; -8: they are not of one WIDTH", bank.paste(2, -1, 1, -1, -1), -6);
        Doc.edge("-8: they are not of one WIDTH; -7", bank.paste(0, -1, 1, -1, -1), -8);
        Doc.edge("-8: they are not of one WIDTH; -7", bank.paste(0, 0, 1, 0, 3), -8);
    }
}
