/** Each promise of the document by hand: ordinary inputs, edges, wrong inputs. The answers were reckoned on paper. */
public final class PromiseTest {
    private static final String HEAD = "town nights 4 law 1 quiet 2 odds 5;";
    /* Night 0: hopes 0, 1 go into pig 0. Night 1: hope 3 fills pig 1. Night 2: thief 0 takes hope 1. */
    private static final String TOWN = HEAD
        + "pig room 10 slot 5;pig room 4 slot 9;"
        + "hope size 3 loud 4 worth 10;hope size 2 loud 3 worth 5;hope size 6 loud 9 worth 40;hope size 4 loud 1 worth 20;"
        + "drop 0 in 0 at 0;drop 1 in 0 at 0;drop 2 in 0 at 1;drop 3 in 1 at 1;drop 2 in 1 at 2;drop 1 in 1 at 19;"
        + "thief at 2 from 0 fingers 2;thief at 3 from 1 fingers 3;";

    public static void main(String[] args) {
        newObject();
        tape();
        reading();
        faults();
        tables();
        nights();
        pigsByNight();
        whatIf();
        packing();
        hush();
        laws();
        tilts();
        weights();
        game();
        chances();
        acts();
        breaking();
        years();
        rates();
        images();
        slots();
        Check.close();
    }

    private static void newObject() {
        HopeBank bank = new HopeBank();
        for (int what = 0; what <= 11; what++) {
            Check.due("1: count(" + what + ")", bank.count(what), 0);
        }
        Check.due("1: fault(0)", bank.fault(0), 0);
        Check.due("1: fault(1)", bank.fault(1), -1);
        Check.due("1: fault(2)", bank.fault(2), -1);
        Check.due("1: pig", bank.pig(0, 0), -2);
        Check.due("1: misses", bank.misses(), -2);
        Check.due("1: anew", bank.anew(), -2);
        Check.due("1: undo", bank.undo(), -2);
        Check.due("1: gets", bank.gets(0, 1, 0, 0), -1000);
        Check.due("1: drawn", bank.drawn(0, 0), -2);
        Check.due("1: back", bank.back(2), -6);
        Check.due("1: tilts", bank.tilts(0, 0), -2);
    }

    private static void tape() {
        HopeBank bank = new HopeBank();
        for (int i = 1; i <= 45; i++) {
            Check.due("2: feed " + i, bank.feed(0x20202020, 0x0A0A0A0A, 0x20202020, 0, -1), 20 * i);
        }
        Check.due("2: feed beyond 900", bank.feed(0, 0, 0, 0, 0), -1);
        Check.due("2: none come", bank.count(10), 900);
        Check.due("3: end(901)", bank.end(901), -1);
        Check.due("3: end(-1)", bank.end(-1), -1);
        Check.due("3: nothing happens", bank.count(10), 900);
        Check.due("3: end(900)", bank.end(900), 900);
        Check.due("3: end(881)", bank.end(881), 881);
        Check.due("2: feed to 901", bank.feed(0, 0, 0, 0, 0), -1);
        Check.due("3: end(880)", bank.end(880), 880);
        Check.due("2: feed to 900", bank.feed(0, 0, 0, 0, 0), 900);
        Check.due("4: bytes that are none", bank.town(), -4);
        Check.due("5: a nought is no token", bank.fault(1), 12);
        Check.due("3: end(12)", bank.end(12), 12);
        Check.due("4: blanks alone", bank.town(), 0);
        Check.due("5: without fault", bank.fault(0), 0);
        Check.due("5: without place", bank.fault(1), -1);
        Check.due("3: end(0)", bank.end(0), 0);
        Check.due("3: end(1) of an empty one", bank.end(1), -1);
    }

    private static void reading() {
        HopeBank bank = Check.bankOf(TOWN);
        Check.due("4: the tape is empty then", bank.count(10), 0);
        Check.due("67: LINES", bank.count(9), 15);
        Check.feed(bank, "town nights 21");
        Check.due("4: a fault", bank.town(), -4);
        Check.due("4: all stays, the tape", bank.count(10), 14);
        Check.due("4: all stays, the town", bank.count(9), 15);
        Check.due("4: all stays, what is in it", bank.within(0, 0), 3);
        Check.due("5: its fault", bank.fault(0), 2);
        Check.due("5: its place", bank.fault(1), 12);
        Check.due("5: another what", bank.fault(-1), -1);
        Check.due("3: end(13)", bank.end(13), 13);
        Check.feed(bank, "law\n0quiet 0009odds 10;\n pig room60slot9 ; ");
        Check.due("60: an act ahead", bank.breaks(0, 0), 3);
        Check.due("4: in place of another", bank.town(), 2);
        Check.due("4: nothing done", bank.count(8), 0);
        Check.due("67: nights", bank.count(0), 2);
        Check.due("67: quiet", bank.count(2), 9);
        Check.due("67: odds", bank.count(3), 10);
        Check.due("6: room", bank.pig(0, 0), 60);
        Check.due("4: no LINE", bank.town(), 0);
        Check.due("4: there is none then", bank.crowd(), -2);
        Check.due("67: none", bank.count(0), 0);
    }

    private static void faulty(String text, int fault, int place) {
        HopeBank bank = new HopeBank();
        Check.feed(bank, text);
        Check.due("4: town of " + text, bank.town(), fault == 0 ? bank.count(9) : -4);
        Check.due("5: fault of " + text, bank.fault(0), fault);
        Check.due("5: place in " + text, bank.fault(1), place);
    }

    private static void faults() {
        String pig = "pig room 5 slot 3;";
        String hope = "hope size 1 loud 1 worth 1;";
        String drop = "drop 0 in 0 at 0;";
        String thief = "thief at 0 from 0 fingers 1;";
        faulty(HEAD, 0, -1);
        faulty("\n " + HEAD + "\n", 0, -1);
        faulty("town nights 4 law 1 quiet 2 odds 5", 1, 34);
        faulty("town nights 4 law 1 quiet 2 odds 5  ", 1, 36);
        faulty("town nights 4 law 1 quiet 2 odds;", 1, 32);
        faulty("town", 1, 4);
        faulty("towns nights", 1, 0);
        faulty("tow n", 1, 0);
        faulty(";", 1, 0);
        faulty("7", 1, 0);
        faulty(" Town", 1, 1);
        faulty("town\tnights", 1, 4);
        faulty(pig + HEAD, 1, 0);
        faulty(HEAD + HEAD, 1, 35);
        faulty(HEAD + ";", 1, 35);
        faulty(HEAD + "cow", 1, 35);
        faulty(HEAD + "pig 5", 1, 39);
        faulty(HEAD + "pig room x", 1, 44);
        faulty(HEAD + "pig room 5 slot 3 4;", 1, 53);
        faulty(HEAD + (char) 233, 1, 35);
        faulty("town nights 0", 2, 12);
        faulty("town nights 20 law 4", 2, 19);
        faulty("town nights 1 law 3 quiet 10", 2, 26);
        faulty("town nights 1 law 3 quiet 9 odds 11", 2, 33);
        faulty("town nights 99999999999999999999999999", 2, 12);
        faulty("town nights 4294967297", 2, 12);
        faulty("town nights 00000000000000000000020 law 0 quiet 0 odds 0;", 0, -1);
        faulty(HEAD + "pig room 0", 2, 44);
        faulty(HEAD + "pig room 61", 2, 44);
        faulty(HEAD + "pig room 1 slot 0", 2, 51);
        faulty(HEAD + "pig room 1 slot 10", 2, 51);
        faulty(HEAD + "hope size 0", 2, 45);
        faulty(HEAD + "hope size 10", 2, 45);
        faulty(HEAD + "hope size 1 loud 10", 2, 52);
        faulty(HEAD + "hope size 1 loud 0 worth 81", 2, 60);
        faulty(HEAD + "hope size 1 loud 0 worth 80;", 0, -1);
        faulty(HEAD + "drop 0", 2, 40);
        faulty(HEAD + hope + "drop 0 in 0", 2, 35 + 27 + 10);
        faulty(HEAD + hope + pig + "drop 1", 2, 35 + 45 + 5);
        faulty(HEAD + hope + pig + "drop 0 in 1", 2, 35 + 45 + 10);
        faulty(HEAD + hope + pig + "drop 0 in 0 at 20", 2, 35 + 45 + 15);
        faulty(HEAD + hope + pig + "drop 0 in 0 at 19;", 0, -1);
        faulty(HEAD + "thief at 20", 2, 35 + 9);
        faulty(HEAD + "thief at 19 from 0", 2, 35 + 17);
        faulty(HEAD + pig + "thief at 19 from 0 fingers 0", 2, 35 + 18 + 27);
        faulty(HEAD + pig + "thief at 19 from 0 fingers 10", 2, 35 + 18 + 27);
        faulty(HEAD + pig.repeat(5), 0, -1);
        faulty(HEAD + pig.repeat(5) + "pig nonsense", 3, 35 + 90);
        faulty(HEAD + hope.repeat(8), 0, -1);
        faulty(HEAD + hope.repeat(9), 3, 35 + 8 * 27);
        faulty(HEAD + pig + hope + drop.repeat(10), 0, -1);
        faulty(HEAD + pig + hope + drop.repeat(11), 3, 35 + 45 + 170);
        faulty(HEAD + pig + thief.repeat(6), 0, -1);
        faulty(HEAD + pig + thief.repeat(7), 3, 35 + 18 + 168);
    }

    private static void tables() {
        HopeBank bank = Check.bankOf(TOWN);
        int[][] told = {{10, 5, -2}, {4, 9, -2}, {-2, -2, -2}};
        int[][] hopes = {{3, 4, 10, -2}, {2, 3, 5, -2}, {6, 9, 40, -2}, {4, 1, 20, -2}, {-2, -2, -2, -2}};
        int[][] drops = {{0, 0, 0}, {1, 0, 0}, {2, 0, 1}, {3, 1, 1}, {2, 1, 2}, {1, 1, 19}, {-2, -2, -2}};
        int[][] thieves = {{2, 0, 2}, {3, 1, 3}, {-2, -2, -2}};
        for (int i = 0; i < 3; i++) {
            for (int k = 0; k < 3; k++) {
                Check.due("6: pig(" + i + ", " + k + ")", bank.pig(i, k), told[i][k]);
                Check.due("9: thief(" + i + ", " + k + ")", bank.thief(i, k), thieves[i][k]);
            }
        }
        for (int i = 0; i < 5; i++) {
            for (int k = 0; k < 4; k++) {
                Check.due("7: hope(" + i + ", " + k + ")", bank.hope(i, k), hopes[i][k]);
            }
        }
        for (int i = 0; i < 7; i++) {
            for (int k = 0; k < 3; k++) {
                Check.due("8: drop(" + i + ", " + k + ")", bank.drop(i, k), drops[i][k]);
            }
        }
        Check.due("6: pig(-1, 0)", bank.pig(-1, 0), -2);
        Check.due("6: pig(0, -1)", bank.pig(0, -1), -2);
        Check.due("7: hope(0, -1)", bank.hope(0, -1), -2);
        Check.due("8: drop(0, 3)", bank.drop(0, 3), -2);
        Check.due("9: thief(0, 3)", bank.thief(0, 3), -2);
        Check.due("9: thief(max)", bank.thief(Integer.MAX_VALUE, 2), -2);
        int[] counts = {4, 1, 2, 5, 2, 4, 6, 2, 0, 15, 0, 0};
        for (int what = 0; what < counts.length; what++) {
            Check.due("67: count(" + what + ")", bank.count(what), counts[what]);
        }
        Check.due("67: count(12)", bank.count(12), -1);
        Check.due("67: count(-1)", bank.count(-1), -1);
    }

    private static void nights() {
        HopeBank bank = Check.bankOf(TOWN);
        Check.due("10: misses", bank.misses(), 4 + 16 + 32);
        Check.due("11: silent", bank.silent(), 0);
        int[] empties = {2, 0, 0, 0};
        int[] heavy = {0, 0, 1, 1};
        int[] all = {15, 37, 33, 35};
        int[] stolen = {0, 0, 2, 2};
        int[] loudest = {0, 0, 0, 0};
        for (int night = 0; night < 4; night++) {
            Check.due("12: empties " + night, bank.empties(night), empties[night]);
            Check.due("13: heavy " + night, bank.heavy(night), heavy[night]);
            Check.due("31: all " + night, bank.all(night), all[night]);
            Check.due("32: stolen " + night, bank.stolen(night), stolen[night]);
            Check.due("35: got " + night, bank.got(night), 0);
            Check.due("37: loudest " + night, bank.loudest(night), loudest[night]);
        }
        for (int night = -1; night <= 4; night += 5) {
            Check.due("12: no night", bank.empties(night), -2);
            Check.due("13: no night", bank.heavy(night), -2);
            Check.due("31: no night", bank.all(night), -2);
            Check.due("32: no night", bank.stolen(night), -2);
            Check.due("35: no night", bank.got(night), -2);
            Check.due("37: no night", bank.loudest(night), -2);
        }
        Check.due("17: crowd", bank.crowd(), 2);
        Check.due("21: victims", bank.victims(), 1);
        Check.due("26: known", bank.known(), 1);
        Check.due("33: takes(0)", bank.takes(0), 1);
        Check.due("33: takes(1)", bank.takes(1), -1);
        Check.due("33: takes(2)", bank.takes(2), -2);
        Check.due("34: loss", bank.loss(), 5);
        Check.due("36: out", bank.out(), 4);
        HopeBank bare = Check.bankOf(HEAD);
        Check.due("12: no pigs", bare.empties(0), 0);
        Check.due("13: no pigs", bare.heavy(0), -1);
        Check.due("17: no pigs", bare.crowd(), 0);
        Check.due("37: no pigs", bare.loudest(3), -1);
        Check.due("42: no thieves", bare.ward(), -1);
        Check.due("64: no thieves", bare.drawn(1, 0), 0);
    }

    private static void pigsByNight() {
        HopeBank bank = Check.bankOf(TOWN);
        int[][] within = {{3, 3, 1, 1}, {0, 8, 8, 8}};
        int[][] oldest = {{0, 0, 0, 0}, {-1, 3, 3, 3}};
        int[][] small = {{1, 1, 0, 0}, {-1, 3, 3, 3}};
        int[][] weight = {{5, 5, 3, 3}, {0, 4, 4, 4}};
        int[][] left = {{5, 5, 7, 7}, {4, 0, 0, 0}};
        int[][] rattle = {{5, 5, 4, 4}, {0, 0, 0, 0}};
        int[][] value = {{15, 17, 12, 13}, {0, 20, 21, 22}};
        for (int pig = 0; pig < 2; pig++) {
            for (int night = 0; night < 4; night++) {
                String where = " " + pig + " " + night;
                Check.due("14: oldest" + where, bank.oldest(pig, night), oldest[pig][night]);
                Check.due("15: small" + where, bank.small(pig, night), small[pig][night]);
                Check.due("22: within" + where, bank.within(pig, night), within[pig][night]);
                Check.due("27: weight" + where, bank.weight(pig, night), weight[pig][night]);
                Check.due("28: left" + where, bank.left(pig, night), left[pig][night]);
                Check.due("29: rattle" + where, bank.rattle(pig, night), rattle[pig][night]);
                Check.due("30: value" + where, bank.value(pig, night), value[pig][night]);
            }
        }
        int[][] none = {{2, 0}, {-1, 0}, {0, 4}, {0, -1}};
        for (int[] pair : none) {
            Check.due("14: none", bank.oldest(pair[0], pair[1]), -2);
            Check.due("15: none", bank.small(pair[0], pair[1]), -2);
            Check.due("22: none", bank.within(pair[0], pair[1]), -2);
            Check.due("27: none", bank.weight(pair[0], pair[1]), -2);
            Check.due("28: none", bank.left(pair[0], pair[1]), -2);
            Check.due("29: none", bank.rattle(pair[0], pair[1]), -2);
            Check.due("30: none", bank.value(pair[0], pair[1]), -2);
            Check.due("40: none", bank.may(pair[0], pair[1]), -2);
        }
        int[][] ofPig = {{4, 4, 5, -1, 1}, {1, 0, 0, 1, 3}, {-2, -2, -2, -2, -2}};
        for (int pig = 0; pig < 3; pig++) {
            Check.due("18: loud " + pig, bank.loud(pig), ofPig[pig][0]);
            Check.due("19: gains " + pig, bank.gains(pig), ofPig[pig][1]);
            Check.due("20: tight " + pig, bank.tight(pig), ofPig[pig][2]);
            Check.due("38: full " + pig, bank.full(pig), ofPig[pig][3]);
            Check.due("39: best " + pig, bank.best(pig), ofPig[pig][4]);
        }
        int[][] rich = {{10, 11, 12, 13}, {5, 6, 0, 0}, {0, 0, 0, 0}, {0, 20, 21, 22}};
        int[][] where = {{0, 0, 0, 0}, {0, 0, -11, -11}, {-10, -10, -10, -10}, {-10, 1, 1, 1}};
        int[] falls = {0, 0, -1, 1, -2};
        int[] heard = {4, 2, -1, 1, -2};
        for (int hope = 0; hope < 5; hope++) {
            Check.due("24: falls " + hope, bank.falls(hope), falls[hope]);
            Check.due("25: heard " + hope, bank.heard(hope), heard[hope]);
            for (int night = 0; night < 5; night++) {
                boolean none2 = hope == 4 || night == 4;
                Check.due("16: rich", bank.rich(hope, night), none2 ? -2 : rich[hope][night]);
                Check.due("23: where", bank.where(hope, night), none2 ? -2 : where[hope][night]);
            }
        }
        HopeBank idle = Check.bankOf(HEAD + "pig room 3 slot 3;hope size 1 loud 1 worth 0;drop 0 in 0 at 3;thief at 3 from 0 fingers 1;");
        Check.due("18: gone in its night", idle.loud(0), -1);
        Check.due("25: heard all the same", idle.heard(0), 1);
        Check.due("39: never above 0", idle.best(0), -1);
        Check.due("20: all room", idle.tight(0), 3);
        HopeBank silent = Check.bankOf(HEAD + "pig room 3 slot 3;hope size 1 loud 1 worth 0;hope size 1 loud 1 worth 0;"
            + "hope size 1 loud 0 worth 9;drop 0 in 0 at 2;drop 1 in 0 at 3;");
        Check.due("11: silent", silent.silent(), 2);
        Check.due("39: 0 is not above 0 at once", silent.best(0), 3);
        Check.due("14: oldest", silent.oldest(0, 3), 0);
        Check.due("29: rattle no more than the room", silent.rattle(0, 3), 1);
    }

    private static void whatIf() {
        HopeBank bank = Check.bankOf(TOWN);
        Check.due("40: may(0, 0)", bank.may(0, 0), 8);
        Check.due("40: may(0, 1)", bank.may(0, 1), 0);
        Check.due("40: may(1, 0)", bank.may(1, 0), 8);
        Check.due("41: by no room, the slot", bank.needs(0), -1);
        Check.due("41: by no room, no night", bank.needs(1), -1);
        Check.due("41: none such", bank.needs(2), -2);
        Check.due("42: ward", bank.ward(), 0);
        HopeBank other = Check.bankOf("town nights 3 law 0 quiet 0 odds 0;pig room 1 slot 9;pig room 9 slot 9;"
            + "hope size 5 loud 1 worth 7;hope size 4 loud 1 worth 7;hope size 2 loud 1 worth 1;"
            + "drop 0 in 0 at 0;drop 1 in 0 at 0;drop 2 in 0 at 1;"
            + "thief at 0 from 0 fingers 4;thief at 0 from 0 fingers 4;thief at 1 from 0 fingers 9;");
        // With room 9 both fall, the thief takes hope 1; then 5 + 2 fit.
        Check.due("41: needs", other.needs(0), 9);
        Check.due("41: no drops into it", other.needs(1), 1);
        Check.due("42: none of them takes", other.ward(), -1);
        HopeBank wide = Check.bankOf("town nights 1 law 0 quiet 0 odds 0;pig room 1 slot 9;"
            + "hope size 9 loud 1 worth 7;".repeat(6) + "hope size 6 loud 1 worth 7;hope size 1 loud 1 worth 1;"
            + "drop 0 in 0 at 0;drop 1 in 0 at 0;drop 2 in 0 at 0;drop 3 in 0 at 0;drop 4 in 0 at 0;drop 5 in 0 at 0;"
            + "drop 6 in 0 at 0;");
        Check.due("41: the greatest room", wide.needs(0), 60);
        // The first thief takes hope 1, the second hope 0: without either one hope stays.
        HopeBank ward = Check.bankOf("town nights 3 law 0 quiet 0 odds 0;pig room 9 slot 9;"
            + "hope size 5 loud 1 worth 7;hope size 4 loud 1 worth 7;drop 0 in 0 at 0;drop 1 in 0 at 0;"
            + "thief at 2 from 0 fingers 5;thief at 2 from 0 fingers 5;");
        Check.due("42: the first of several", ward.ward(), 0);
        Check.due("61: broken ahead", other.breaks(0, 0), 0);
        Check.due("41: a break is as it is", other.needs(0), -1);
        Check.due("40: not into a broken one", other.may(0, 1), 0);
        Check.due("61: broken at the end of night 1", other.breaks(1, 1), 0);
        Check.due("40: into one that is broken at the end", other.may(1, 1), 7);
        Check.due("40: not behind it", other.may(1, 2), 0);
    }

    private static void packing() {
        HopeBank bank = Check.bankOf(TOWN);
        Check.due("43: packs", bank.packs(), 35);
        Check.due("45: most", bank.most(), 3);
        int[] packed = {0, 0, -1, 0, -2};
        for (int hope = 0; hope < packed.length; hope++) {
            Check.due("44: packed " + hope, bank.packed(hope), packed[hope]);
        }
        Check.due("44: packed -1", bank.packed(-1), -2);
        HopeBank ties = Check.bankOf(HEAD + "pig room 4 slot 4;pig room 3 slot 4;pig room 9 slot 2;"
            + "hope size 3 loud 0 worth 5;hope size 4 loud 0 worth 5;hope size 3 loud 0 worth 5;hope size 2 loud 0 worth 0;");
        // Hope 1 needs pig 0, then one of hopes 0, 2 has pig 1: none first for hope 0.
        Check.due("43: ties", ties.packs(), 10);
        int[] first = {-1, 0, 1, -1};
        for (int hope = 0; hope < first.length; hope++) {
            Check.due("44: the first such " + hope, ties.packed(hope), first[hope]);
        }
        Check.due("45: ties", ties.most(), 3);
        HopeBank bare = Check.bankOf(HEAD + "hope size 1 loud 0 worth 5;");
        Check.due("43: no pigs", bare.packs(), 0);
        Check.due("44: no pigs", bare.packed(0), -1);
        Check.due("45: no pigs", bare.most(), 0);
        Check.due("66: worth 0", bank.rate(3, 0), 20);
        Check.due("43: packs anew", bank.packs(), 15);
        Check.due("44: worth nothing", bank.packed(3), -1);
        Check.due("45: most all the same", bank.most(), 3);
        Check.due("61: broken", bank.breaks(0, 0), 3);
        Check.due("43: as told", bank.packs(), 15);
    }

    private static void hush() {
        HopeBank bank = Check.bankOf(TOWN);
        Check.due("46: unheard(0)", bank.unheard(0), 3);
        Check.due("48: rows(0)", bank.rows(0), 1);
        int[] order = {3, 1, 0, -1, -1};
        for (int i = 0; i < order.length; i++) {
            Check.due("47: order " + i, bank.order(0, i), order[i]);
        }
        Check.due("47: order -1", bank.order(0, -1), -1);
        Check.due("47: order max", bank.order(0, Integer.MAX_VALUE), -1);
        Check.due("46: unheard(1)", bank.unheard(1), 1);
        Check.due("47: order(1, 0)", bank.order(1, 0), 3);
        Check.due("46: none such", bank.unheard(2), -2);
        Check.due("47: none such", bank.order(-1, 0), -2);
        Check.due("48: none such", bank.rows(2), -2);
        HopeBank loud = Check.bankOf("town nights 1 law 0 quiet 0 odds 0;pig room 9 slot 9;hope size 1 loud 1 worth 0;");
        Check.due("46: all are heard", loud.unheard(0), 0);
        Check.due("47: no place", loud.order(0, 0), -1);
        Check.due("48: the empty row", loud.rows(0), 1);
        HopeBank eight = Check.bankOf("town nights 1 law 0 quiet 9 odds 0;pig room 60 slot 9;"
            + "hope size 1 loud 9 worth 0;".repeat(8));
        Check.due("46: all eight", eight.unheard(0), 8);
        Check.due("48: in any order", eight.rows(0), 40320);
        for (int i = 0; i < 8; i++) {
            Check.due("47: the least row", eight.order(0, i), i);
        }
        Check.due("47: behind it", eight.order(0, 8), -1);
    }

    private static void laws() {
        String rest = " quiet 2 odds 0;pig room 9 slot 9;hope size 4 loud 5 worth 1;hope size 3 loud 7 worth 1;"
            + "hope size 2 loud 9 worth 1;drop 0 in 0 at 0;drop 1 in 0 at 0;drop 2 in 0 at 0;";
        int[][] heard = {{5, 7, 9}, {5, 6, 7}, {5, 3, 4}, {5, 7, 0}};
        int[] known = {7, 7, 7, 3};
        int[] silent = {0, 0, 0, 4};
        // The last one fills the pig: by law 3 that is not heard.
        int[] unheard = {0, 0, 0, 0};
        for (int law = 0; law < 4; law++) {
            HopeBank bank = Check.bankOf("town nights 1 law " + law + rest);
            for (int hope = 0; hope < 3; hope++) {
                Check.due("25: heard by law " + law, bank.heard(hope), heard[law][hope]);
            }
            Check.due("26: known by law " + law, bank.known(), known[law]);
            Check.due("11: silent by law " + law, bank.silent(), silent[law]);
            Check.due("46: unheard by law " + law, bank.unheard(0), unheard[law]);
            Check.due("38: full", bank.full(0), 0);
        }
    }

    private static void tilt(HopeBank bank, int[] numbers, int[] due) {
        Check.due("70: row", bank.row(0, 0, numbers.length), 0);
        for (int i = 0; i < numbers.length; i++) {
            Check.due("71: write", bank.write(0, i, numbers[i]), 0);
        }
        Check.due("49: tilts", bank.tilts(0, 0), due[0]);
        Check.due("50: surely", bank.surely(0, 0), due[1]);
        Check.due("51: never", bank.never(0, 0), due[2]);
        Check.due("52: ask", bank.ask(0, 0), due[3]);
        Check.due("53: leaves", bank.leaves(0, 0), due[4]);
    }

    private static void tilts() {
        HopeBank bank = Check.bankOf(TOWN);
        // Pig 0 holds any of hopes 0, 1, 3 (sizes 3, 2, 4), not hope 2: eight sets.
        // Tilt 2 parts them 4 : 4; tilt 3 by 0, 1, 2 of hopes 0, 1: 2, 4, 2; tilt 4: 1, 3, 3, 1.
        tilt(bank, new int[] {}, new int[] {8, 0, 4, 4, 3});
        tilt(bank, new int[] {2, 1}, new int[] {4, 2, 4, 3, 2});
        tilt(bank, new int[] {2, 1, 3, 1}, new int[] {2, 2, 5, 4, 1});
        tilt(bank, new int[] {2, 1, 3, 1, 9, 2}, new int[] {1, 10, 5, -1, 1});
        tilt(bank, new int[] {1, 0, 1, 0}, new int[] {8, 0, 4, 4, 3});
        tilt(bank, new int[] {1, 1}, new int[] {0, -1, -1, -1, 0});
        tilt(bank, new int[] {9, 8}, new int[] {0, -1, -1, -1, 0});
        HopeBank eight = Check.bankOf(HEAD + "pig room 60 slot 9;" + "hope size 1 loud 0 worth 0;".repeat(8));
        tilt(eight, new int[] {9, 8}, new int[] {1, 255, 0, -1, 1});
        tilt(eight, new int[] {9, 0}, new int[] {1, 0, 255, -1, 1});
        tilt(eight, new int[] {9, 7}, new int[] {8, 0, 0, -1, 8});
        int[] wrong = {-2, -2, -2, -2, -2};
        tilt(bank, new int[] {0, 1}, wrong);
        tilt(bank, new int[] {10, 1}, wrong);
        tilt(bank, new int[] {1, 9}, wrong);
        tilt(bank, new int[] {1, -1}, wrong);
        tilt(bank, new int[] {1, 0, 1}, wrong);
        tilt(bank, new int[] {1, 0, 1, 0, 200, 0}, wrong);
        Check.due("49: nothing there", bank.tilts(1, 0), -6);
        Check.due("50: nothing there", bank.surely(1, 0), -6);
        Check.due("51: nothing there", bank.never(1, 0), -6);
        Check.due("52: nothing there", bank.ask(1, 0), -6);
        Check.due("53: nothing there", bank.leaves(1, 0), -6);
        Check.due("49: no such pig, ahead of -6", bank.tilts(1, 2), -2);
        Check.due("49: no such slot", bank.tilts(4, 0), -2);
        Check.due("49: no such slot", bank.tilts(-1, 0), -2);
        // The room of pig 1 is 4: the empty set, and each of hopes 0, 1, 3 alone.
        Check.due("70: row", bank.row(2, 3, 0), 0);
        Check.due("49: by its room", bank.tilts(2, 1), 4);
        Check.due("51: by its room", bank.never(2, 1), 4);
        Check.due("70: row", bank.row(3, 3, 2), 0);
        Check.due("71: write", bank.write(3, 0, 1L << 32 | 2), 0);
        Check.due("49: all of eight bytes", bank.tilts(3, 0), -2);
        Check.due("70: row", bank.row(3, 2, 2), 0);
        Check.due("71: write", bank.write(3, 0, 1L << 32 | 2), 0);
        Check.due("49: cut to four bytes", bank.tilts(3, 0), 4);
    }

    private static void weights() {
        HopeBank bank = Check.bankOf("town nights 2 law 0 quiet 0 odds 0;pig room 60 slot 9;"
            + "hope size 5 loud 0 worth 0;hope size 2 loud 0 worth 0;hope size 3 loud 0 worth 0;hope size 5 loud 0 worth 0;"
            + "drop 0 in 0 at 0;drop 1 in 0 at 0;drop 2 in 0 at 0;drop 3 in 0 at 1;");
        Check.due("54: 5 of 5, 2 + 3", bank.lighter(0, 0, 5), 2);
        Check.due("55: the fewest", bank.taken(0, 0, 5), 1);
        Check.due("54: at night 1 the other 5 too", bank.lighter(0, 1, 5), 3);
        Check.due("55: the least set", bank.taken(0, 1, 5), 1);
        Check.due("54: 10 by 5 + 5, 5 + 2 + 3 twice", bank.lighter(0, 1, 10), 3);
        Check.due("55: 5 + 5", bank.taken(0, 1, 10), 9);
        Check.due("54: nothing weighs 0", bank.lighter(0, 0, 0), 1);
        Check.due("55: nothing", bank.taken(0, 0, 0), 0);
        Check.due("54: none", bank.lighter(0, 0, 1), 0);
        Check.due("55: none", bank.taken(0, 0, 1), -1);
        Check.due("54: 60", bank.lighter(0, 0, 60), 0);
        int[][] wrong = {{0, 0, 61}, {0, 0, -1}, {1, 0, 0}, {0, 2, 0}, {-1, 0, 0}, {0, -1, 0}};
        for (int[] w : wrong) {
            Check.due("54: wrong", bank.lighter(w[0], w[1], w[2]), -2);
            Check.due("55: wrong", bank.taken(w[0], w[1], w[2]), -2);
        }
    }

    private static void game() {
        HopeBank bank = Check.bankOf(TOWN);
        Check.due("56: rests", bank.rests(0, 1), 2 + 8);
        Check.due("56: rests the other way", bank.rests(1, 0), 4 + 8);
        Check.due("57: both at the last", bank.gets(0, 1, 0, 0), 4);
        Check.due("57: at its greatest", bank.gets(0, 1, 1, 0), 17);
        Check.due("57: the other", bank.gets(1, 0, 0, 0), 13);
        Check.due("57: apart", bank.gets(1, 0, 1, 1), 22);
        Check.due("61: broken by an act", bank.breaks(0, 0), 3);
        Check.due("57: as if not broken", bank.gets(0, 1, 1, 0), 17);
        Check.due("56: as if not broken", bank.rests(0, 1), 10);
        int[][] wrong = {{0, 0}, {0, 2}, {2, 0}, {-1, 0}};
        for (int[] w : wrong) {
            Check.due("56: wrong", bank.rests(w[0], w[1]), -2);
            Check.due("57: wrong", bank.gets(w[0], w[1], 0, 0), -1000);
        }
        Check.due("57: no choice", bank.gets(0, 1, 2, 0), -1000);
        Check.due("57: no choice", bank.gets(0, 1, -1, 0), -1000);
        Check.due("57: no choice", bank.gets(0, 1, 0, 2), -1000);
        Check.due("57: no choice", bank.gets(0, 1, 0, -1), -1000);
        HopeBank empty = Check.bankOf(HEAD + "pig room 3 slot 3;pig room 3 slot 3;");
        // Both are worth 0 ever: the greatest is at night 0.
        Check.due("57: below 0, at the last", empty.gets(0, 1, 0, 0), -9);
        Check.due("57: below 0, at the greatest", empty.gets(0, 1, 1, 1), -9);
        Check.due("57: apart", empty.gets(0, 1, 1, 0), 0);
        Check.due("56: one each", empty.rests(0, 1), 2 + 4);
    }

    private static void fraction(String call, int above, int below, int wantAbove, int wantBelow) {
        Check.due(call + " above", above, wantAbove);
        Check.due(call + " below", below, wantBelow);
    }

    private static void chances() {
        HopeBank bank = Check.bankOf(TOWN);
        fraction("58: ahead of the thief", bank.chance(1, 1, 0), bank.chance(1, 1, 1), 1, 1);
        fraction("58: behind him", bank.chance(1, 2, 0), bank.chance(1, 2, 1), 1, 2);
        fraction("58: at the end", bank.chance(1, 3, 0), bank.chance(1, 3, 1), 1, 2);
        fraction("58: out", bank.chance(2, 3, 0), bank.chance(2, 3, 1), 0, 1);
        fraction("58: too great for his fingers", bank.chance(0, 3, 0), bank.chance(0, 3, 1), 1, 1);
        fraction("59: mean at 2", bank.mean(0, 2, 0), bank.mean(0, 2, 1), 31, 2);
        fraction("59: mean at 3", bank.mean(0, 3, 0), bank.mean(0, 3, 1), 17, 1);
        fraction("59: nothing in it", bank.mean(1, 0, 0), bank.mean(1, 0, 1), 0, 1);
        int[][] wrong = {{4, 0, 0}, {-1, 0, 0}, {0, 4, 0}, {0, -1, 0}, {0, 0, 2}, {0, 0, -1}};
        for (int[] w : wrong) {
            Check.due("58: wrong", bank.chance(w[0], w[1], w[2]), -2);
            Check.due("59: wrong", bank.mean(w[0], w[1], w[2]), -2);
        }
        HopeBank two = Check.bankOf("town nights 1 law 0 quiet 0 odds 3;pig room 9 slot 9;"
            + "hope size 1 loud 0 worth 7;hope size 2 loud 0 worth 9;drop 0 in 0 at 0;drop 1 in 0 at 0;"
            + "thief at 0 from 0 fingers 9;thief at 0 from 0 fingers 9;thief at 9 from 0 fingers 9;");
        // Hope 0 stays if neither comes, 49 / 100; hope 1 unless both come, 91 / 100.
        fraction("58: neither", two.chance(0, 0, 0), two.chance(0, 0, 1), 49, 100);
        fraction("58: not both", two.chance(1, 0, 0), two.chance(1, 0, 1), 91, 100);
        fraction("59: 49 * 7 + 91 * 9", two.mean(0, 0, 0), two.mean(0, 0, 1), 581, 50);
        Check.due("61: broken", two.breaks(0, 0), 0);
        fraction("58: broken", two.chance(1, 0, 0), two.chance(1, 0, 1), 0, 1);
    }

    private static void acts() {
        HopeBank bank = Check.bankOf(TOWN);
        Check.due("60: no such hope", bank.drops(4, 0, 0), -2);
        Check.due("60: no such pig", bank.drops(0, 2, 0), -2);
        Check.due("60: no such night", bank.drops(0, 0, 4), -2);
        Check.due("62: there is none", bank.undo(), -5);
        Check.due("63: there were none", bank.anew(), 0);
        Check.due("60: hope 3 into pig 0, ahead of its drop", bank.drops(3, 0, 0), 1);
        Check.due("67: acts", bank.count(8), 1);
        Check.due("22: it is in it", bank.within(0, 0), 11);
        Check.due("10: its drop does not go in", bank.misses(), 4 + 8 + 16 + 32);
        Check.due("25: among two", bank.heard(3), 0);
        Check.due("60: too great for the slot", bank.drops(2, 0, 3), 0);
        Check.due("67: an act all the same", bank.count(8), 2);
        Check.due("60: behind all told", bank.drops(1, 1, 0), 0);
        Check.due("62: undo", bank.undo(), 2);
        Check.due("62: undo", bank.undo(), 1);
        Check.due("22: as it was", bank.within(0, 0), 11);
        Check.due("62: undo", bank.undo(), 0);
        Check.due("22: as it was", bank.within(0, 0), 3);
        for (int i = 0; i < 30; i++) {
            Check.due("60: act " + i, bank.drops(2, 1, 0), 0);
        }
        Check.due("60: 30 acts", bank.drops(2, 1, 0), -5);
        Check.due("60: -2 ahead of -5", bank.drops(2, 1, 4), -2);
        Check.due("61: 30 acts", bank.breaks(0, 0), -5);
        Check.due("61: -2 ahead of -5", bank.breaks(2, 0), -2);
        Check.due("63: anew", bank.anew(), 30);
        Check.due("67: none", bank.count(8), 0);
        fullTown();
    }

    /** As many drops, thieves and acts as there may be, all in nights that there are. */
    private static void fullTown() {
        HopeBank bank = Check.bankOf("town nights 20 law 0 quiet 0 odds 5;pig room 60 slot 9;hope size 9 loud 9 worth 80;"
            + "drop 0 in 0 at 19;".repeat(10) + "thief at 19 from 0 fingers 8;".repeat(6));
        for (int i = 0; i < 29; i++) {
            Check.due("60: in it already", bank.drops(0, 0, 19), 0);
        }
        Check.due("61: the last of all", bank.breaks(0, 19), 1);
        Check.due("10: all but the first", bank.misses(), 1022);
        Check.due("35: got", bank.got(19), 80);
        Check.due("58: gone", bank.chance(0, 19, 0), 0);
        Check.due("62: undo", bank.undo(), 29);
        Check.due("58: in it", bank.chance(0, 19, 0), 1);
        Check.due("59: worth", bank.mean(0, 19, 0), 80);
    }

    private static void breaking() {
        HopeBank bank = Check.bankOf(TOWN);
        Check.due("61: no such pig", bank.breaks(-1, 0), -2);
        Check.due("61: no such night", bank.breaks(0, -1), -2);
        // At night 2 the thief has been there ahead of it.
        Check.due("61: at night 2", bank.breaks(0, 2), 1);
        Check.due("35: ahead of it", bank.got(1), 0);
        Check.due("35: worth as told", bank.got(2), 10);
        Check.due("23: got", bank.where(0, 2), -12);
        Check.due("23: still in it", bank.where(0, 1), 0);
        Check.due("61: broken already", bank.breaks(0, 2), 0);
        Check.due("61: broken already", bank.breaks(0, 3), 0);
        Check.due("61: ahead of all of them", bank.breaks(0, 1), 3);
        Check.due("35: of night 1", bank.got(1), 15);
        Check.due("33: nothing to take", bank.takes(0), -1);
        Check.due("60: not into a broken one", bank.drops(2, 0, 2), 0);
        Check.due("60: in the night of the break", bank.drops(3, 0, 0), 1);
        Check.due("12: broken ones are empty", bank.empties(1), 3);
        Check.due("28: with all room", bank.left(0, 1), 10);
        Check.due("67: acts", bank.count(8), 6);
        Check.due("34: loss", bank.loss(), 0);
        Check.due("36: out", bank.out(), 4);
    }

    private static void years() {
        HopeBank bank = Check.bankOf(TOWN);
        // Seed 7: x is 1282168116 first, the draw 4.
        long x = 7;
        int comers = 0;
        for (int thief = 0; thief < 2; thief++) {
            x = (1103515245L * x + 12345L) & 0x7FFFFFFFL;
            comers |= (x >> 16) % 10 < 5 ? 1 << thief : 0;
        }
        Check.due("64: thief 0 comes", comers & 1, 1);
        Check.due("64: who comes", bank.drawn(7, 0), comers);
        Check.due("64: what all is worth", bank.drawn(7, 1), 35);
        int stolen = 0;
        for (int seed = 7; seed < 27; seed++) {
            int who = bank.drawn(seed, 0);
            stolen += who & 1;
            Check.due("64: by who comes", bank.drawn(seed, 1), (who & 1) == 1 ? 35 : 43);
        }
        Check.due("65: luck", bank.luck(7, 20, 1), stolen);
        Check.due("65: never", bank.luck(7, 20, 0), 0);
        Check.due("65: one year", bank.luck(7, 1, 1), 1);
        // Seed 0: x is 12345, the draw 0.
        Check.due("64: the least seed", bank.drawn(0, 0) & 1, 1);
        Check.due("65: the least seed", bank.luck(0, 1, 1), 1);
        Check.due("64: the greatest seed", Math.min(0, bank.drawn(2000000000, 0)), 0);
        Check.due("64: beyond", bank.drawn(2000000001, 0), -2);
        Check.due("64: below 0", bank.drawn(-1, 0), -2);
        Check.due("64: no such what", bank.drawn(0, 2), -2);
        Check.due("65: n 0", bank.luck(0, 0, 0), -2);
        Check.due("65: n 21", bank.luck(0, 21, 0), -2);
        Check.due("65: no such hope", bank.luck(0, 1, 4), -2);
        Check.due("65: seed below 0", bank.luck(-1, 1, 0), -2);
        Check.due("65: seed beyond", bank.luck(2000000001, 1, 0), -2);
        Check.due("65: the last seed", Math.min(0, bank.luck(2000000000, 20, 0)), 0);
        HopeBank sure = Check.bankOf("town nights 1 law 0 quiet 0 odds 10;pig room 1 slot 1;thief at 0 from 0 fingers 1;");
        Check.due("64: ten in ten", sure.drawn(123, 0), 1);
        HopeBank no = Check.bankOf("town nights 1 law 0 quiet 0 odds 0;pig room 1 slot 1;thief at 0 from 0 fingers 1;");
        Check.due("64: none in ten", no.drawn(123, 0), 0);
    }

    private static void rates() {
        HopeBank bank = Check.bankOf(TOWN);
        Check.due("66: rate", bank.rate(0, 80), 10);
        Check.due("7: worth", bank.hope(0, 2), 80);
        Check.due("30: value", bank.value(0, 0), 85);
        Check.due("66: what it was", bank.rate(0, 0), 80);
        Check.due("66: 81", bank.rate(0, 81), -2);
        Check.due("66: -1", bank.rate(0, -1), -2);
        Check.due("66: no such hope", bank.rate(4, 0), -2);
        Check.due("60: an act", bank.drops(0, 0, 0), 0);
        Check.due("66: acts", bank.rate(0, 5), -5);
        Check.due("66: -2 ahead of -5", bank.rate(0, 81), -2);
        Check.due("62: undo", bank.undo(), 0);
        Check.due("66: none any more", bank.rate(0, 5), 0);
    }

    private static void images() {
        HopeBank bank = Check.bankOf(TOWN);
        Check.due("68: no such k", bank.image(3), -2);
        Check.due("68: no such k", bank.image(-1), -2);
        Check.due("69: no such k", bank.back(3), -2);
        Check.due("69: no such k", bank.back(-1), -2);
        Check.due("69: nothing", bank.back(0), -6);
        Check.due("68: image", bank.image(0), 0);
        Check.due("66: rate", bank.rate(0, 70), 10);
        Check.due("61: breaks", bank.breaks(0, 0), 3);
        Check.due("68: image", bank.image(1), 0);
        Check.due("69: back", bank.back(0), 0);
        Check.due("67: no acts", bank.count(8), 0);
        Check.due("7: worth", bank.hope(0, 2), 10);
        Check.due("23: in it", bank.where(0, 3), 0);
        Check.due("69: back", bank.back(1), 0);
        Check.due("67: an act", bank.count(8), 1);
        Check.due("35: got", bank.got(0), 75);
        Check.due("62: undo", bank.undo(), 0);
        Check.due("69: the image stays", bank.back(1), 0);
        Check.due("67: an act", bank.count(8), 1);
        Check.feed(bank, HEAD);
        Check.due("4: town", bank.town(), 1);
        Check.due("6: no pigs", bank.pig(0, 0), -2);
        Check.due("69: back to the other", bank.back(0), 0);
        Check.due("67: LINES", bank.count(9), 15);
        Check.due("4: none", bank.town(), 0);
        Check.due("68: image of none", bank.image(2), 0);
        Check.due("69: back", bank.back(0), 0);
        Check.feed(bank, "x");
        Check.due("69: back to none", bank.back(2), 0);
        Check.due("67: none", bank.count(9), 0);
        Check.due("67: the tape stays", bank.count(10), 1);
        Check.due("17: none", bank.crowd(), -2);
    }

    private static void slots() {
        HopeBank bank = Check.bankOf(TOWN);
        Check.due("70: no such slot", bank.row(4, 0, 1), -2);
        Check.due("70: no such slot", bank.row(-1, 0, 1), -2);
        Check.due("70: no such width", bank.row(0, 4, 1), -2);
        Check.due("70: no such width", bank.row(0, -1, 1), -2);
        Check.due("70: too many", bank.row(0, 0, 61), -2);
        Check.due("70: below 0", bank.row(0, 0, -1), -3);
        Check.due("70: -2 first", bank.row(4, 0, -1), -2);
        Check.due("67: no rows", bank.count(11), 0);
        Check.due("71: no such slot", bank.write(4, 0, 1), -2);
        Check.due("71: nothing", bank.write(0, 0, 1), -6);
        Check.due("70: row", bank.row(0, 1, 60), 0);
        Check.due("71: write", bank.write(0, 59, 1), 0);
        Check.due("71: beyond", bank.write(0, 60, 1), -7);
        Check.due("71: below 0", bank.write(0, -1, 1), -7);
        Check.due("70: in place of another", bank.row(0, 1, 4), 0);
        Check.due("71: beyond", bank.write(0, 4, 1), -7);
        Check.due("70: row", bank.row(1, 1, 2), 0);
        Check.due("70: row", bank.row(2, 0, 2), 0);
        Check.due("67: rows", bank.count(11), 3);
        Check.due("70: stays", bank.row(2, 0, -5), -3);
        Check.due("71: it stays", bank.write(2, 1, 0), 0);
        Check.due("72: no such slot", bank.paste(4, 0, 0, 0, 1), -2);
        Check.due("72: no such slot", bank.paste(0, 0, -1, 0, 1), -2);
        Check.due("72: nothing", bank.paste(0, 0, 3, 0, 1), -6);
        Check.due("72: nothing", bank.paste(3, 0, 0, 0, 1), -6);
        Check.due("72: -2 first", bank.paste(3, 0, 4, 0, 1), -2);
        Check.due("72: not of one width", bank.paste(0, 0, 2, 0, 1), -8);
        Check.due("72: -8 first", bank.paste(0, -1, 2, 0, 1), -8);
        int[][] beyond = {{0, 3, 1, 0, 2}, {0, 0, 1, 1, 2}, {0, -1, 1, 0, 1}, {0, 0, 1, -1, 1}, {0, 0, 1, 0, -1},
            {0, 0, 1, 0, 3}, {0, Integer.MAX_VALUE, 1, 0, 1}, {0, 1, 1, 0, Integer.MAX_VALUE}, {0, 5, 1, 0, 0}};
        for (int[] b : beyond) {
            Check.due("72: beyond", bank.paste(b[0], b[1], b[2], b[3], b[4]), -7);
        }
        Check.due("72: no numbers", bank.paste(0, 4, 1, 2, 0), 0);
        overlap(bank);
    }

    /** What the numbers are can be seen by tilts alone: a row of sizes and counts that only one order makes right. */
    private static void overlap(HopeBank bank) {
        // Slot 0: 2 1 3 1; put to its own place 2 from 0, two numbers: 2 1 2 1.
        int[] numbers = {2, 1, 3, 1};
        for (int i = 0; i < 4; i++) {
            Check.due("71: write", bank.write(0, i, numbers[i] + 65536L * i), 0);
        }
        Check.due("49: 2 1 3 1", bank.tilts(0, 0), 2);
        Check.due("72: paste", bank.paste(0, 0, 0, 2, 2), 0);
        Check.due("49: 2 1 2 1", bank.tilts(0, 0), 4);
        Check.due("71: write", bank.write(0, 1, 0), 0);
        Check.due("71: write", bank.write(0, 2, 3), 0);
        Check.due("49: 2 0 3 1", bank.tilts(0, 0), 2);
        // From 0 to 1, three numbers, as they were: 2 2 0 3: no far of 0.
        Check.due("72: paste", bank.paste(0, 0, 0, 1, 3), 0);
        Check.due("49: 2 2 0 3", bank.tilts(0, 0), -2);
        Check.due("71: write", bank.write(0, 2, 9), 0);
        Check.due("49: 2 2 9 3", bank.tilts(0, 0), 0);
        Check.due("72: paste back", bank.paste(0, 2, 0, 0, 2), 0);
        Check.due("49: 9 3 9 3", bank.tilts(0, 0), 1);
        Check.due("72: to another", bank.paste(0, 0, 1, 0, 2), 0);
        Check.due("50: 9 3", bank.surely(1, 0), 11);
    }
}
