/** Edges of packing, what falls unheard, tilts, weights, the game and chance: V to IX, promises 43 to 59, 64, 65. */
final class ReckonEdges {
    private ReckonEdges() {
    }

    static void all() {
        packing();
        packed();
        hush();
        order();
        tilts();
        tiltsRefused();
        asking();
        weights();
        game();
        rests();
        chance();
        mean();
        draws();
        luck();
    }

    private static HopeBank of(int nights, String... lines) {
        return Check.bankOf(Tell.town(nights, 0, 0, 5) + String.join("", lines));
    }

    private static void packing() {
        Doc.at("V");
        HopeBank slot = of(1, Tell.pig(60, 4), Tell.hope(4, 0, 10), Tell.hope(5, 0, 70));
        Doc.edge("PACKING: for each HOPE a PIG whose slot lets it, or none", slot.packs(), 10);
        HopeBank first = of(1, Tell.pig(60, 4), Tell.hope(5, 0, 70), Tell.hope(4, 0, 10));
        Doc.edge("PACKING: for each HOPE a PIG whose slot lets it, or none", first.packs(), 10);
        HopeBank even = of(1, Tell.pig(7, 9), Tell.hope(4, 0, 10), Tell.hope(3, 0, 7));
        HopeBank over = of(1, Tell.pig(6, 9), Tell.hope(4, 0, 10), Tell.hope(3, 0, 7));
        Doc.edge("that no PIG holds more than its room", even.packs(), 17);
        Doc.edge("that no PIG holds more than its room", over.packs(), 10);
        HopeBank told = of(2, Tell.pig(7, 9), Tell.hope(4, 0, 10), Tell.hope(3, 0, 7), Tell.drop(1, 0, 0),
            Tell.thief(0, 0, 9));
        told.breaks(0, 0);
        told.drops(0, 0, 0);
        Doc.edges("(all as told, empty)", new int[] {told.packs(), told.most(), told.packed(0), told.packed(1)},
            17, 2, 0, 0);
        Doc.at(43);
        // The dearest alone is less than the two others; and two pigs hold what one does not.
        HopeBank by = of(1, Tell.pig(6, 9), Tell.hope(6, 0, 30), Tell.hope(3, 0, 20), Tell.hope(3, 0, 20));
        Doc.edge("PACKING (V): the greatest worth of HOPES in PIGS by any", by.packs(), 40);
        HopeBank many = of(1, Tell.pig(9, 9).repeat(5), Tell.hope(9, 0, 80).repeat(8));
        Doc.edge("PACKING (V): the greatest worth of HOPES in PIGS by any", many.packs(), 400);
        HopeBank all = of(1, Tell.pig(60, 9).repeat(5), Tell.hope(7, 0, 80).repeat(8));
        Doc.edge("PACKING (V): the greatest worth of HOPES in PIGS by any", all.packs(), 640);
        Doc.edge("PACKING (V): the greatest worth of HOPES in PIGS by any", of(1, Tell.pig(9, 9)).packs(), 0);
        Doc.edge("PACKING (V): the greatest worth of HOPES in PIGS by any", of(1, Tell.hope(1, 0, 9)).packs(), 0);
        Doc.edge("PACKING (V): the greatest worth of HOPES in PIGS by any", of(1).packs(), 0);
        by.rate(0, 41);
        Doc.edge("PACKING (V): the greatest worth of HOPES in PIGS by any", by.packs(), 41);
        by.rate(0, 0);
        by.rate(1, 1);
        Doc.edge("PACKING (V): the greatest worth of HOPES in PIGS by any", by.packs(), 21);
        Doc.edge("-2: there is no TOWN", new HopeBank().packs(), -2);
        Doc.at(45);
        HopeBank small = of(1, Tell.pig(6, 9), Tell.hope(6, 0, 80), Tell.hope(3, 0, 0), Tell.hope(3, 0, 0));
        Doc.edge("The most HOPES in PIGS by any PACKING", small.most(), 2);
        Check.feed(small, Tell.town(1, 0, 0, 0) + Tell.pig(6, 9) + Tell.hope(6, 0, 80) + Tell.hope(6, 0, 0));
        small.town();
        Doc.edge("The most HOPES in PIGS by any PACKING", small.most(), 1);
        Doc.edges("The most HOPES in PIGS by any PACKING", new int[] {many.most(), all.most(), slot.most(),
            over.most()}, 5, 8, 1, 1);
        Doc.edge("The most HOPES in PIGS by any PACKING", of(1, Tell.hope(1, 0, 9)).most(), 0);
        Doc.edge("The most HOPES in PIGS by any PACKING", of(1).most(), 0);
        Doc.edge("-2: there is no TOWN", new HopeBank().most(), -2);
    }

    private static int[] rowOf(HopeBank bank, int many) {
        int[] row = new int[many];
        for (int h = 0; h < many; h++) {
            row[h] = bank.packed(h);
        }
        return row;
    }

    private static void packed() {
        Doc.at(44);
        String words = "The PIG of a HOPE by the first such (the least row by HOPES, none first)";
        HopeBank one = of(1, Tell.pig(3, 9), Tell.hope(3, 0, 5), Tell.hope(3, 0, 5));
        Doc.edges(words, rowOf(one, 2), -1, 0);
        HopeBank two = of(1, Tell.pig(3, 9).repeat(2), Tell.hope(3, 0, 5), Tell.hope(3, 0, 5));
        Doc.edges(words, rowOf(two, 2), 0, 1);
        HopeBank worthless = of(1, Tell.pig(9, 9).repeat(2), Tell.hope(3, 0, 0), Tell.hope(3, 0, 5));
        Doc.edges(words, rowOf(worthless, 2), -1, 0);
        HopeBank behind = of(1, Tell.pig(9, 9).repeat(2), Tell.hope(3, 0, 5), Tell.hope(3, 0, 0));
        Doc.edges(words, rowOf(behind, 2), 0, -1);
        // Hope 1 needs pig 0, so hope 0 has pig 1, though 0 would be less.
        HopeBank needed = of(1, Tell.pig(5, 9), Tell.pig(3, 9), Tell.hope(3, 0, 5), Tell.hope(5, 0, 5));
        Doc.edges(words, rowOf(needed, 2), 1, 0);
        HopeBank last = of(1, Tell.pig(1, 9).repeat(4), Tell.pig(9, 9), Tell.hope(9, 0, 1));
        Doc.edge("The PIG of a HOPE", last.packed(0), 4);
        HopeBank eight = of(1, Tell.pig(9, 9).repeat(5), Tell.hope(9, 0, 80).repeat(8));
        Doc.edges(words, rowOf(eight, 8), -1, -1, -1, 0, 1, 2, 3, 4);
        HopeBank bare = of(1, Tell.hope(1, 0, 9));
        Doc.edge("NONE: none", bare.packed(0), -1);
        // None such in a pig: worth 0 in all is had by none at all.
        Doc.edge("NONE: none", of(1, Tell.pig(9, 9), Tell.hope(1, 0, 0)).packed(0), -1);
        Wrong.one("-2: there is none such", one::packed, 2);
        Doc.edge("-2: there is none such", new HopeBank().packed(0), -2);
        one.rate(1, 4);
        Doc.edges(words, rowOf(one, 2), 0, -1);
    }

    private static HopeBank hushed(int law, int quiet, String... lines) {
        return Check.bankOf(Tell.town(1, law, quiet, 0) + String.join("", lines));
    }

    private static void hush() {
        Doc.at("VI");
        String louds = Tell.hope(1, 3, 0) + Tell.hope(1, 4, 0) + Tell.hope(1, 5, 0);
        String pig = Tell.pig(9, 9);
        Doc.edges("none of them KNOWN", new int[] {hushed(0, 2, pig, louds).unheard(0),
            hushed(0, 3, pig, louds).unheard(0), hushed(0, 4, pig, louds).unheard(0),
            hushed(0, 5, pig, louds).unheard(0)}, 0, 1, 2, 3);
        // By law 1 it is 3, then 4 - 1, then 5 - 2.
        Doc.edges("one behind the other (III)", new int[] {hushed(1, 2, pig, louds).unheard(0),
            hushed(1, 3, pig, louds).unheard(0)}, 0, 3);
        // By law 2 only the first is heard whole: 3, then 4 / 2, 5 / 2; and with quiet 1 none.
        Doc.edges("one behind the other (III)", new int[] {hushed(2, 3, pig, louds).unheard(0),
            hushed(2, 1, pig, louds).unheard(0)}, 3, 0);
        // By law 3 one that fills the pig is heard 0 loud.
        HopeBank filling = hushed(3, 0, Tell.pig(3, 9), Tell.hope(1, 0, 0), Tell.hope(2, 9, 0), Tell.hope(3, 9, 0));
        Doc.edges("one behind the other (III)", new int[] {filling.unheard(0), filling.rows(0)}, 2, 1);
        HopeBank fit = hushed(0, 9, Tell.pig(5, 3), Tell.hope(3, 0, 0), Tell.hope(2, 0, 0), Tell.hope(4, 0, 0),
            Tell.hope(1, 0, 0));
        Doc.edges("UNHEARD: a row of HOPES that go into one PIG", new int[] {fit.unheard(0), fit.rows(0)}, 2, 6);
        HopeBank told = hushed(1, 2, pig, louds, Tell.drop(0, 0, 0), Tell.drop(1, 0, 0));
        told.breaks(0, 0);
        Doc.edge("empty at first", told.unheard(0), 0);
        Doc.at(46);
        HopeBank eight = hushed(0, 9, Tell.pig(8, 1), Tell.hope(1, 9, 0).repeat(8));
        Doc.edge("UNHEARD (VI): the most HOPES for a PIG", eight.unheard(0), 8);
        Doc.edge("UNHEARD (VI): the most HOPES for a PIG", hushed(0, 9, pig).unheard(0), 0);
        // The longest row is not the one that begins with the least.
        HopeBank later = hushed(0, 9, Tell.pig(4, 9), Tell.hope(4, 0, 0), Tell.hope(2, 0, 0), Tell.hope(2, 0, 0));
        Doc.edge("UNHEARD (VI): the most HOPES for a PIG", later.unheard(0), 2);
        Wrong.one("-2: there is none such", later::unheard, 1);
        Doc.edge("-2: there is none such", new HopeBank().unheard(0), -2);
        Doc.at(48);
        Doc.edge("How many such rows of so many there are", eight.rows(0), 40320);
        Doc.edge("How many such rows of so many there are", later.rows(0), 2);
        Doc.edge("How many such rows of so many there are", hushed(0, 9, pig).rows(0), 1);
        Wrong.one("-2 likewise", later::rows, 1);
        Doc.edge("-2 likewise", new HopeBank().rows(0), -2);
    }

    private static void order() {
        Doc.at(47);
        String words = "HOPE i (from 0) of the first such row of so many (the least row)";
        HopeBank later = hushed(0, 9, Tell.pig(4, 9), Tell.pig(1, 1), Tell.hope(4, 0, 0), Tell.hope(2, 0, 0),
            Tell.hope(2, 0, 0));
        Doc.edges(words, new int[] {later.order(0, 0), later.order(0, 1)}, 1, 2);
        Doc.edges("NONE: there is no such place in it", new int[] {later.order(0, 2), later.order(0, -1),
            later.order(1, 0), later.order(0, Integer.MAX_VALUE), later.order(0, Integer.MIN_VALUE)},
            -1, -1, -1, -1, -1);
        Doc.edge("-2 likewise", later.order(2, 0), -2);
        Doc.edge("-2 likewise", later.order(-1, 0), -2);
        Doc.edge("-2 likewise", later.order(-1, -1), -2);
        Doc.edge("-2 likewise", new HopeBank().order(0, 0), -2);
        // By law 1 each must wait for so many ahead of it: 5, 4, 3 with quiet 3 go 2, 1, 0.
        HopeBank turned = hushed(1, 3, Tell.pig(9, 9), Tell.hope(1, 5, 0), Tell.hope(1, 4, 0), Tell.hope(1, 3, 0));
        Doc.edges(words, new int[] {turned.order(0, 0), turned.order(0, 1), turned.order(0, 2), turned.order(0, 3)},
            2, 1, 0, -1);
        HopeBank eight = hushed(0, 9, Tell.pig(8, 1), Tell.hope(1, 9, 0).repeat(8));
        for (int i = 0; i < 8; i++) {
            Doc.edge(words, eight.order(0, i), i);
        }
        Doc.edge("NONE: there is no such place in it", eight.order(0, 8), -1);
    }

    private static final String SIZES = Tell.hope(1, 0, 0) + Tell.hope(4, 0, 0) + Tell.hope(4, 0, 0)
        + Tell.hope(9, 0, 0);

    static void put(HopeBank bank, int slot, int width, int... numbers) {
        bank.row(slot, width, numbers.length);
        for (int i = 0; i < numbers.length; i++) {
            bank.write(slot, i, numbers[i]);
        }
    }

    private static int tiltsOf(String pig, int... numbers) {
        HopeBank bank = of(1, pig, SIZES);
        put(bank, 0, 0, numbers);
        return bank.tilts(0, 0);
    }

    private static void tilts() {
        Doc.at("VII");
        String pig = Tell.pig(60, 9);
        Doc.edges("all in a PIG of a size no more than that", new int[] {tiltsOf(pig, 3, 1), tiltsOf(pig, 4, 3),
            tiltsOf(pig, 4, 2), tiltsOf(pig, 8, 0), tiltsOf(pig, 9, 0), tiltsOf(pig, 9, 4), tiltsOf(pig, 1, 1),
            tiltsOf(pig, 1, 2)}, 8, 2, 6, 2, 1, 1, 8, 0);
        Doc.edges("how far (1 .. 9), how many HOPES came out", new int[] {tiltsOf(pig, 0, 0), tiltsOf(pig, 1, 0),
            tiltsOf(pig, 9, 1), tiltsOf(pig, 10, 0), tiltsOf(pig, -1, 0)}, -2, 8, 4, -2, -2);
        Doc.edges("Sets of HOPES that fit into a PIG together (by its slot, room)", new int[] {tiltsOf(Tell.pig(60, 8)),
            tiltsOf(Tell.pig(60, 4)), tiltsOf(Tell.pig(60, 3)), tiltsOf(Tell.pig(18, 9)), tiltsOf(Tell.pig(17, 9)),
            tiltsOf(Tell.pig(9, 9)), tiltsOf(Tell.pig(8, 9)), tiltsOf(Tell.pig(1, 1))}, 8, 8, 2, 16, 15, 9, 7, 2);
        HopeBank great = of(1, pig, Tell.hope(9, 0, 0), Tell.hope(1, 0, 0), Tell.hope(4, 0, 0));
        put(great, 0, 0, 4, 2);
        Doc.edges("all in a PIG of a size no more than that", new int[] {great.tilts(0, 0), great.surely(0, 0)}, 2, 6);
        Doc.edges("of which it is so", new int[] {tiltsOf(pig, 1, 1, 4, 2), tiltsOf(pig, 1, 1, 4, 2, 9, 3),
            tiltsOf(pig, 1, 1, 1, 0), tiltsOf(pig, 4, 2, 1, 1)}, 4, 2, 0, 4);
        Doc.edges("TILTS: a SLOT's row, two numbers each", new int[] {tiltsOf(pig), tiltsOf(pig, 1),
            tiltsOf(pig, 1, 0, 4), tiltsOf(pig, 1, 0, 4, 2)}, 16, -2, -2, 2);
        Doc.at(49);
        Doc.edge("TILTS (VII): sets that fit a PIG and a SLOT's row: how many", tiltsOf(pig), 16);
        HopeBank eight = of(1, pig, Tell.hope(1, 0, 0).repeat(8));
        int[] sets = {1, 8, 28, 56, 70, 56, 28, 8, 1};
        for (int many = 0; many <= 8; many++) {
            put(eight, 3, many % 4, 9, many);
            Doc.edge("(how many 0 .. 8; asked last)", eight.tilts(3, 0), sets[many]);
        }
        put(eight, 3, 0, 9, 9);
        Doc.edge("(how many 0 .. 8; asked last)", eight.tilts(3, 0), -2);
        put(eight, 3, 0, 9, -1);
        Doc.edge("(how many 0 .. 8; asked last)", eight.tilts(3, 0), -2);
        Doc.edge("TILTS (VII): sets that fit a PIG and a SLOT's row", of(1, pig).tilts(0, 0), -6);
        HopeBank none = of(1, pig);
        none.row(0, 0, 0);
        Doc.edges("TILTS (VII): sets that fit a PIG and a SLOT's row: how many",
            new int[] {none.tilts(0, 0), none.surely(0, 0), none.never(0, 0)}, 1, 0, 0);
        // Thirty tilts at most.
        int[] long60 = new int[60];
        for (int i = 0; i < 60; i += 2) {
            long60[i] = 9;
            long60[i + 1] = i == 58 ? 1 : 2;
        }
        Doc.edge("TILTS (VII): sets that fit a PIG and a SLOT's row: how many", tiltsOf(pig, long60), 0);
        long60[59] = 2;
        Doc.edge("TILTS (VII): sets that fit a PIG and a SLOT's row: how many", tiltsOf(pig, long60), 6);
        long60[59] = 9;
        Doc.edge("a number is none such", tiltsOf(pig, long60), -2);
    }

    private static void tiltsRefused() {
        HopeBank bank = of(1, Tell.pig(60, 9), SIZES);
        put(bank, 0, 0, 4, 1);
        put(bank, 2, 0, 0, 1);
        put(bank, 3, 0, 4);
        refused(49, "-2: there is no such PIG, SLOT, a number is none such", "-6: it has nothing", bank::tilts);
        refused(50, "-2, -6 likewise", "-2, -6 likewise", bank::surely);
        refused(51, "NONE, -2, -6 likewise", "NONE, -2, -6 likewise", bank::never);
        refused(52, "-2, -6 likewise", "-2, -6 likewise", bank::ask);
        refused(53, "-2, -6 likewise", "-2, -6 likewise", bank::leaves);
        Doc.at(49);
        Doc.edge("not two each", bank.tilts(3, 0), -2);
        // No such pig is asked ahead of nothing, a number last of all.
        HopeBank none = new HopeBank();
        Doc.edge("asked last", none.tilts(0, 0), -2);
        Doc.edge("there is no such PIG, SLOT", of(1).tilts(0, 0), -2);
    }

    /** Slot 0 has a row, slot 1 nothing, slot 2 a number that is none such, slot 3 one number alone. */
    private static void refused(int promise, String none, String nothing, Wrong.Two call) {
        Doc.at(promise);
        Wrong.two(none, call, 4, 1);
        Doc.edge(none, call.of(1, 1), -2);
        Doc.edge(none, call.of(1, -1), -2);
        Doc.edge(none, call.of(2, 0), -2);
        Doc.edge(none, call.of(3, 0), -2);
        Doc.edge(nothing, call.of(1, 0), -6);
    }

    private static void asking() {
        HopeBank bank = of(1, Tell.pig(60, 9), SIZES);
        put(bank, 0, 0, 4, 3);
        put(bank, 1, 0, 3, 2);
        put(bank, 2, 0);
        put(bank, 3, 0, 4, 3, 9, 3);
        Doc.at(50);
        // Slot 0: hopes 0, 1, 2 and perhaps 3. Slot 1: none is so. Slot 2: all sets.
        Doc.edges("HOPES that are in all of these, as bits", new int[] {bank.surely(0, 0), bank.surely(2, 0),
            bank.surely(3, 0)}, 7, 0, 7);
        Doc.edge("NONE: there are none", bank.surely(1, 0), -1);
        Doc.at(51);
        Doc.edges("HOPES that are in none of them, as bits", new int[] {bank.never(0, 0), bank.never(2, 0),
            bank.never(3, 0)}, 0, 0, 8);
        Doc.edge("NONE, -2, -6 likewise", bank.never(1, 0), -1);
        HopeBank narrow = of(1, Tell.pig(60, 3), SIZES);
        narrow.row(0, 0, 0);
        Doc.edge("HOPES that are in none of them, as bits", narrow.never(0, 0), 14);
        HopeBank none = of(1, Tell.pig(60, 3), Tell.hope(4, 0, 0).repeat(8));
        none.row(0, 0, 0);
        Doc.edge("HOPES that are in none of them, as bits", none.never(0, 0), 255);
        Doc.at(52);
        // Of all 16: far 1 parts 8 : 8, far 4 by 0 .. 3 of three 2, 6, 6, 2, far 9 by 0 .. 4 of four 1, 4, 6, 4, 1.
        Doc.edge("How far (1 .. 9) to tilt leaves fewest of these at worst", bank.ask(2, 0), 4);
        Doc.edge("the first of several", bank.ask(2, 0), 4);
        Doc.edge("How far (1 .. 9)", bank.ask(0, 0), 9);
        Doc.edge("How far (1 .. 9)", narrow.ask(0, 0), 1);
        Doc.edge("if fewer than now", bank.ask(3, 0), -1);
        Doc.edge("NONE: none", bank.ask(1, 0), -1);
        // Two of a size: one in it or the other, no tilt tells which.
        put(bank, 3, 0, 1, 0, 4, 1, 9, 1);
        Doc.edge("NONE: none", bank.ask(3, 0), -1);
        Doc.at(53);
        Doc.edges("How many it leaves at worst (as now without)", new int[] {bank.leaves(2, 0), bank.leaves(0, 0),
            bank.leaves(1, 0), bank.leaves(3, 0), narrow.leaves(0, 0)}, 6, 1, 0, 2, 1);
        // Seven of eight are in it: eight sets, which no tilt parts.
        HopeBank eight = of(1, Tell.pig(60, 9), Tell.hope(1, 0, 0).repeat(8));
        put(eight, 0, 0, 9, 7);
        Doc.edges("How many it leaves at worst (as now without)", new int[] {eight.leaves(0, 0), eight.ask(0, 0)},
            8, -1);
    }

    private static void weights() {
        String sixty = Tell.hope(9, 0, 0).repeat(6) + Tell.hope(6, 0, 0) + Tell.hope(1, 0, 0);
        StringBuilder drops = new StringBuilder();
        for (int h = 0; h < 7; h++) {
            drops.append(Tell.drop(h, 0, h == 6 ? 1 : 0));
        }
        HopeBank bank = of(2, Tell.pig(60, 9), Tell.pig(9, 9), sixty, drops.toString());
        Doc.at(54);
        String words = "LIGHTER: of HOPES in a PIG at the end of a NIGHT sets that weigh n (0 .. 60) together: "
            + "how many";
        Doc.edges(words, new int[] {bank.lighter(0, 1, 60), bank.lighter(0, 0, 60), bank.lighter(0, 0, 54),
            bank.lighter(0, 0, 9), bank.lighter(0, 0, 18), bank.lighter(0, 1, 6), bank.lighter(0, 0, 6),
            bank.lighter(0, 1, 59)}, 1, 0, 1, 6, 15, 1, 0, 0);
        Doc.edges(words, new int[] {bank.lighter(0, 0, 0), bank.lighter(1, 0, 0), bank.lighter(1, 0, 1)}, 1, 1, 0);
        HopeBank whole = of(1, Tell.pig(9, 9), Tell.hope(4, 0, 0), Tell.hope(5, 0, 0), Tell.drop(0, 0, 0),
            Tell.drop(1, 0, 0));
        Doc.edges(words, new int[] {whole.lighter(0, 0, 9), whole.lighter(0, 0, 4), whole.lighter(0, 0, 8)}, 1, 1, 0);
        // Hope 7 is out: no set has it.
        Doc.edge(words, bank.lighter(0, 0, 1), 0);
        Wrong.three("-2: there are none such", bank::lighter, 2, 2, 61);
        Doc.edge("-2: there are none such", new HopeBank().lighter(0, 0, 0), -2);
        Doc.at(55);
        HopeBank few = of(1, Tell.pig(60, 9), Tell.hope(1, 0, 0), Tell.hope(2, 0, 0), Tell.hope(3, 0, 0),
            Tell.hope(3, 0, 0), Tell.drop(0, 0, 0), Tell.drop(1, 0, 0), Tell.drop(2, 0, 0), Tell.drop(3, 0, 0));
        Doc.edges("The least set of fewest HOPES of these, as bits", new int[] {few.taken(0, 0, 3), few.taken(0, 0, 6),
            few.taken(0, 0, 5), few.taken(0, 0, 9), few.taken(0, 0, 0)}, 4, 12, 6, 15, 0);
        Doc.edges("The least set of fewest HOPES of these, as bits",
            new int[] {bank.taken(0, 1, 60), bank.taken(0, 1, 15)}, 127, 65);
        Doc.edges("NONE: none", new int[] {few.taken(0, 0, 10), few.taken(0, 0, 60), bank.taken(1, 0, 1),
            bank.taken(0, 0, 1)}, -1, -1, -1, -1);
        Wrong.three("-2 likewise", bank::taken, 2, 2, 61);
        Doc.edge("-2 likewise", new HopeBank().taken(0, 0, 0), -2);
    }

    /** Pig 0 is worth 20, 0, 0; pig 1 is worth 10, 11, 12; pig 2 nothing ever; pig 3 is worth 0, 5, 5. */
    private static HopeBank players() {
        return of(3, Tell.pig(9, 9).repeat(4), Tell.hope(1, 0, 20), Tell.hope(1, 0, 10), Tell.hope(2, 0, 5),
            Tell.hope(1, 0, 3), Tell.hope(2, 0, 5), Tell.drop(0, 0, 0), Tell.thief(1, 0, 1), Tell.drop(1, 1, 0),
            Tell.drop(2, 3, 1), Tell.thief(2, 3, 9), Tell.drop(4, 3, 2));
    }

    private static int[] four(HopeBank bank, int pig, int other) {
        return new int[] {bank.gets(pig, other, 0, 0), bank.gets(pig, other, 1, 0), bank.gets(pig, other, 0, 1),
            bank.gets(pig, other, 1, 1)};
    }

    private static void game() {
        HopeBank bank = players();
        Doc.at("VIII");
        Doc.edges("Each of two PIGS is broken at the last NIGHT, or at the NIGHT at whose end its VALUE is greatest",
            four(bank, 0, 1), 0 - 9, 20, 0 - 9, 20);
        Doc.edges("less 9, if both are broken at one NIGHT", four(bank, 1, 0), 12 - 9, 12 - 9, 12, 12);
        // Pig 2 is worth 0 at the end of every night: the first, 0 too.
        Doc.edges("(the first of several, 0 too)", four(bank, 2, 0), 0 - 9, 0, 0, 0 - 9);
        // Pig 3 is worth 5 at nights 1 and 2: the first of them.
        Doc.edges("(the first of several, 0 too)", four(bank, 3, 1), 5 - 9, 5, 5 - 9, 5);
        Doc.edges("Its child GETS its VALUE at that NIGHT's end", four(bank, 3, 0), 5 - 9, 5, 5, 5);
        bank.breaks(0, 0);
        bank.breaks(1, 1);
        Doc.edges("(VALUES here as if no PIG were broken by acts)", four(bank, 0, 1), 0 - 9, 20, 0 - 9, 20);
        Doc.edges("(VALUES here as if no PIG were broken by acts)", four(bank, 1, 0), 12 - 9, 12 - 9, 12, 12);
        // A drop by acts is not taken away.
        bank.drops(3, 2, 0);
        Doc.edges("as if no PIG were broken by acts", four(bank, 2, 0), 5 - 9, 5 - 9, 5, 5);
        Doc.at(57);
        Doc.edges("What the child of the first of two GETS by the choices (1 at its greatest, 0 at the last NIGHT;",
            four(players(), 0, 1), -9, 20, -9, 20);
        HopeBank one = of(1, Tell.pig(9, 9).repeat(2), Tell.hope(1, 0, 20), Tell.drop(0, 0, 0));
        Doc.edges("below 0, too", four(one, 1, 0), -9, -9, -9, -9);
        Doc.edges("by the choices", four(one, 0, 1), 11, 11, 11, 11);
        String none = "-1,000: there are none such, one twice";
        int[][] wrong = {{0, 0, 0, 0}, {3, 3, 1, 0}, {-1, 0, 0, 0}, {4, 0, 0, 0}, {0, -1, 0, 0}, {0, 4, 0, 0},
            {0, 1, 2, 0}, {0, 1, -1, 0}, {0, 1, 0, 2}, {0, 1, 0, -1}, {-1, -1, 0, 0}, {Integer.MAX_VALUE, 0, 0, 0},
            {0, 1, Integer.MIN_VALUE, 0}};
        for (int[] w : wrong) {
            Doc.edge(none, bank.gets(w[0], w[1], w[2], w[3]), -1000);
        }
        Doc.edge(none, new HopeBank().gets(0, 1, 0, 0), -1000);
        Doc.edge(none, bank.gets(0, 3, 0, 0), -9);
    }

    private static void rests() {
        HopeBank bank = players();
        Doc.at(56);
        // Pig 0 is better at its greatest, pig 1 has one choice: it rests by both.
        Doc.edges("2 the first one at its greatest, 4 the other one, 8 both",
            new int[] {bank.rests(0, 1), bank.rests(1, 0)}, 2 + 8, 4 + 8);
        HopeBank empty = of(2, Tell.pig(9, 9).repeat(2));
        Doc.edge("GAME (VIII): pairs of choices of two PIGS at REST, as bits", empty.rests(0, 1), 2 + 4);
        HopeBank one = of(1, Tell.pig(9, 9).repeat(2));
        Doc.edge("1 both at the last NIGHT", one.rests(0, 1), 15);
        Doc.edge("8 both", one.rests(1, 0), 15);
        HopeBank broken = players();
        broken.breaks(0, 0);
        broken.breaks(1, 0);
        Doc.edge("pairs of choices of two PIGS at REST", broken.rests(0, 1), 2 + 8);
        String none = "-2: there are none such, one twice";
        int[][] wrong = {{0, 0}, {3, 3}, {-1, 0}, {4, 0}, {0, -1}, {0, 4}, {Integer.MAX_VALUE, 0},
            {0, Integer.MIN_VALUE}};
        for (int[] w : wrong) {
            Doc.edge(none, bank.rests(w[0], w[1]), -2);
        }
        Doc.edge(none, new HopeBank().rests(0, 1), -2);
        Doc.at("VIII");
        // Each is worth so much at night 0, its greatest, and less at the last; both at night 0 lose nine.
        String two = Tell.pig(9, 9).repeat(2) + Tell.hope(1, 0, 20) + Tell.hope(2, 0, 10) + Tell.hope(1, 0, 20)
            + Tell.hope(2, 0, 10) + Tell.drop(0, 0, 0) + Tell.drop(1, 0, 1) + Tell.drop(2, 1, 0) + Tell.drop(3, 1, 1)
            + Tell.thief(1, 0, 1) + Tell.thief(1, 1, 1);
        // Worth 20 and 10: at the greatest together 11 is more than 10 apart, so both.
        HopeBank both = of(2, two);
        Doc.edge("REST: neither GETS more by the other choice alone", both.rests(0, 1), 8);
        both.rate(1, 11);
        both.rate(3, 11);
        // Worth 20 and 11: together 11, apart 11, as much: each pair but the last nights rests.
        Doc.edge("REST: neither GETS more by the other choice alone", both.rests(0, 1), 2 + 4 + 8);
        both.rate(1, 12);
        both.rate(3, 12);
        Doc.edge("REST: neither GETS more by the other choice alone", both.rests(0, 1), 2 + 4);
    }

    private static void fraction(String words, Wrong.Three call, int a, int b, int above, int below) {
        Doc.edge(words, call.of(a, b, 0), above);
        Doc.edge(words, call.of(a, b, 1), below);
    }

    private static HopeBank odds(int nights, int odds, String... lines) {
        return Check.bankOf(Tell.town(nights, 0, 0, odds) + String.join("", lines));
    }

    private static void chance() {
        String one = Tell.pig(9, 9) + Tell.hope(1, 0, 80) + Tell.drop(0, 0, 0);
        String thief = Tell.thief(0, 0, 9);
        Doc.at("IX");
        String words = "CHANCE: each THIEF comes with odds in ten, by himself";
        int[][] byOdds = {{0, 1, 1}, {1, 9, 10}, {2, 4, 5}, {5, 1, 2}, {9, 1, 10}, {10, 0, 1}};
        for (int[] o : byOdds) {
            fraction(words, odds(1, o[0], one, thief)::chance, 0, 0, o[1], o[2]);
        }
        fraction(words, odds(1, 3, one, thief, thief)::chance, 0, 0, 49, 100);
        fraction(words, odds(1, 3, one, thief.repeat(6))::chance, 0, 0, 117649, 1000000);
        // One takes what the other would have taken: hope 1 stays unless both come.
        HopeBank two = odds(1, 3, one, Tell.hope(2, 0, 0), Tell.drop(1, 0, 0), thief, thief);
        fraction(words, two::chance, 1, 0, 91, 100);
        fraction(words, odds(1, 5, one)::chance, 0, 0, 1, 1);
        fraction("FRACTIONS are told in lowest terms (0 / 1)", odds(1, 10, one, thief, thief)::chance, 0, 0, 0, 1);
        fraction("FRACTIONS are told in lowest terms (0 / 1)", odds(1, 5, one, thief, thief)::chance, 0, 0, 1, 4);
        Doc.at(58);
        HopeBank bank = odds(3, 4, Tell.pig(9, 9), Tell.hope(1, 0, 5), Tell.hope(2, 0, 7), Tell.drop(0, 0, 1),
            Tell.thief(2, 0, 1), Tell.thief(7, 0, 9));
        String in = "CHANCE (IX): that a HOPE is in a PIG at the end of a NIGHT, above (what 0), below (1)";
        fraction(in, bank::chance, 0, 0, 0, 1);
        fraction(in, bank::chance, 0, 1, 1, 1);
        fraction(in, bank::chance, 0, 2, 3, 5);
        fraction(in, bank::chance, 1, 2, 0, 1);
        Wrong.three("-2: there are none such", bank::chance, 2, 3, 2);
        Doc.edge("-2: there are none such", new HopeBank().chance(0, 0, 0), -2);
        bank.breaks(0, 2);
        fraction(in, bank::chance, 0, 2, 0, 1);
        fraction(in, bank::chance, 0, 1, 1, 1);
    }

    private static void mean() {
        Doc.at(59);
        String words = "The mean VALUE of a PIG then, above, below";
        String one = Tell.pig(9, 9) + Tell.hope(1, 0, 80) + Tell.drop(0, 0, 0);
        fraction(words, odds(1, 3, one, Tell.thief(0, 0, 9).repeat(6))::mean, 0, 0, 117649, 12500);
        fraction(words, odds(1, 10, one, Tell.thief(0, 0, 9))::mean, 0, 0, 0, 1);
        fraction(words, odds(2, 0, one, Tell.thief(0, 0, 9))::mean, 0, 1, 81, 1);
        // The dearest: eight hopes for nineteen nights; five of six thieves take none.
        StringBuilder eight = new StringBuilder(Tell.pig(60, 9) + Tell.hope(7, 0, 80).repeat(8));
        for (int h = 0; h < 8; h++) {
            eight.append(Tell.drop(h, 0, 0));
        }
        HopeBank dear = odds(20, 3, eight.toString(), Tell.thief(19, 0, 1).repeat(6));
        fraction(words, dear::mean, 0, 19, 8 * 99, 1);
        // Each who comes takes one of 99: the mean of six is 1.8.
        HopeBank robbed = odds(20, 3, eight.toString(), Tell.thief(19, 0, 9).repeat(6));
        fraction(words, robbed::mean, 0, 19, 3069, 5);
        Doc.edge(words, robbed.mean(0, 18, 0), 8 * 98);
        HopeBank bank = odds(3, 4, Tell.pig(9, 9).repeat(2), Tell.hope(1, 0, 5), Tell.drop(0, 0, 1),
            Tell.thief(2, 0, 1));
        fraction(words, bank::mean, 0, 0, 0, 1);
        fraction(words, bank::mean, 0, 1, 5, 1);
        fraction(words, bank::mean, 0, 2, 18, 5);
        fraction(words, bank::mean, 1, 2, 0, 1);
        Wrong.three("-2 likewise", bank::mean, 2, 3, 2);
        Doc.edge("-2 likewise", new HopeBank().mean(0, 0, 0), -2);
    }

    private static int drawOf(long seed, int which) {
        java.math.BigInteger x = java.math.BigInteger.valueOf(seed);
        for (int i = 0; i <= which; i++) {
            x = x.multiply(java.math.BigInteger.valueOf(1103515245)).add(java.math.BigInteger.valueOf(12345))
                .mod(java.math.BigInteger.valueOf(2147483648L));
        }
        return x.divide(java.math.BigInteger.valueOf(65536)).mod(java.math.BigInteger.TEN).intValue();
    }

    private static void draws() {
        String six = Tell.pig(9, 9) + Tell.hope(1, 0, 20) + Tell.hope(2, 0, 30) + Tell.drop(0, 0, 0)
            + Tell.drop(1, 0, 0) + Tell.thief(1, 0, 1) + Tell.thief(7, 0, 9).repeat(5);
        Doc.at("IX");
        int[] seeds = {0, 1, 7, 65535, 65536, 1999999999, 2000000000};
        for (int odds = 0; odds <= 10; odds++) {
            HopeBank bank = odds(3, odds, six);
            for (int seed : seeds) {
                int comers = 0;
                for (int t = 0; t < 6; t++) {
                    comers |= drawOf(seed, t) < odds ? 1 << t : 0;
                }
                Doc.edge("DRAWS: x becomes (1103515245 x + 12345) modulo 2,147,483,648 (at first it is the seed)",
                    bank.drawn(seed, 0), comers);
                Doc.edge("a draw: x / 65536, cut, modulo 10", bank.drawn(seed, 0), comers);
                Doc.edge("YEAR drawn: THIEF by THIEF a draw", bank.drawn(seed, 0), comers);
                Doc.edge("below odds he comes", bank.drawn(seed, 1), (comers & 1) == 1 ? 32 : 54);
            }
        }
        // From seed 7 the first draw is 4.
        Doc.edge("below odds he comes", odds(3, 4, six).drawn(7, 0) & 1, 0);
        Doc.edge("below odds he comes", odds(3, 5, six).drawn(7, 0) & 1, 1);
        Doc.at(64);
        HopeBank bank = odds(3, 10, six);
        Doc.edge("what 0: THIEVES who come, as bits", bank.drawn(0, 0), 63);
        Doc.edge("what 0: THIEVES who come, as bits", odds(3, 0, six).drawn(0, 0), 0);
        Doc.edge("what 0: THIEVES who come, as bits", odds(3, 10).drawn(0, 0), 0);
        Doc.edge("1: VALUE of all PIGS at the last NIGHT's end", bank.drawn(0, 1), 32);
        Doc.edge("1: VALUE of all PIGS at the last NIGHT's end", odds(3, 0, six).drawn(0, 1), 54);
        // A year drawn is not what is: that stays.
        Doc.edge("1: VALUE of all PIGS at the last NIGHT's end", odds(3, 0, six).all(2), 32);
        Doc.edge("YEAR drawn (IX) from a seed (0 .. 2,000,000,000)", bank.drawn(2000000000, 0), 63);
        String none = "-2: there are none such, no TOWN";
        Doc.edges(none, new int[] {bank.drawn(2000000001, 0), bank.drawn(-1, 0), bank.drawn(Integer.MIN_VALUE, 1),
            bank.drawn(Integer.MAX_VALUE, 1), bank.drawn(0, 2), bank.drawn(0, -1), new HopeBank().drawn(0, 0),
            new HopeBank().drawn(0, 1)}, -2, -2, -2, -2, -2, -2, -2, -2);
        bank.breaks(0, 2);
        Doc.edge("1: VALUE of all PIGS at the last NIGHT's end", bank.drawn(0, 1), 0);
    }

    private static void luck() {
        Doc.at(65);
        String one = Tell.pig(9, 9) + Tell.hope(1, 0, 20) + Tell.hope(2, 0, 30) + Tell.drop(0, 0, 0)
            + Tell.drop(1, 0, 0) + Tell.thief(1, 0, 1);
        HopeBank bank = odds(3, 5, one);
        String words = "Of n (1 .. 20) such from seeds, the seed and 1, .., in how many a HOPE is stolen";
        int[] seeds = {0, 7, 1000, 1999999981, 2000000000};
        for (int seed : seeds) {
            int years = 0;
            for (int n = 1; n <= 20; n++) {
                years += drawOf((long) seed + n - 1, 0) < 5 ? 1 : 0;
                Doc.edge(words, bank.luck(seed, n, 0), years);
            }
            Doc.edge(words, bank.luck(seed, 20, 1), 0);
        }
        Doc.edges(words, new int[] {odds(3, 10, one).luck(0, 20, 0), odds(3, 0, one).luck(0, 20, 0),
            odds(3, 10, one).luck(0, 1, 0)}, 20, 0, 1);
        Doc.edges("-2: there are none such", new int[] {bank.luck(0, 0, 0), bank.luck(0, 21, 0), bank.luck(0, -1, 0),
            bank.luck(0, Integer.MAX_VALUE, 0), bank.luck(-1, 1, 0), bank.luck(2000000001, 1, 0), bank.luck(0, 1, 2),
            bank.luck(0, 1, -1), new HopeBank().luck(0, 1, 0)}, -2, -2, -2, -2, -2, -2, -2, -2, -2);
        bank.breaks(0, 0);
        Doc.edge(words, bank.luck(0, 20, 0), 0);
    }
}
