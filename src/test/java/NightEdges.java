/** Edges of what is in which pig when: terms II to IV, promises 10 to 42. */
final class NightEdges {
    private NightEdges() {
    }

    static void all() {
        drops();
        thieves();
        breaking();
        hearing();
        rattleAndValue();
        ofTheTown();
        byNight();
        heaviestAndLoudest();
        oldestAndSmall();
        ofHopes();
        ofPigs();
        inAPig();
        stolenAndGot();
        fullAndBest();
        may();
        needs();
        ward();
    }

    private static HopeBank of(int nights, String... lines) {
        return Check.bankOf(Tell.town(nights, 0, 0, 5) + String.join("", lines));
    }

    private static HopeBank byLaw(int law, int quiet, String... lines) {
        return Check.bankOf(Tell.town(3, law, quiet, 5) + String.join("", lines));
    }

    private static String hopes(int... sizes) {
        StringBuilder text = new StringBuilder();
        for (int size : sizes) {
            text.append(Tell.hope(size, 1, 10));
        }
        return text.toString();
    }

    private static void drops() {
        Doc.at("II");
        String narrow = Tell.pig(3, 9) + hopes(3, 3);
        Doc.edge("first DROPS at it, as they were told", of(1, narrow, Tell.drop(1, 0, 0),
            Tell.drop(0, 0, 0)).within(0, 0), 2);
        Doc.edge("In each NIGHT", of(2, narrow, Tell.drop(1, 0, 1), Tell.drop(0, 0, 0)).within(0, 1), 1);
        HopeBank acted = of(1, narrow, Tell.drop(1, 0, 0));
        Doc.edge("(acts behind them)", acted.drops(0, 0, 0), 0);
        Doc.edge("(acts behind them)", acted.within(0, 0), 2);
        HopeBank acts = of(1, narrow);
        Doc.edge("(acts behind them)", acts.drops(1, 0, 0), 1);
        Doc.edge("(acts behind them)", acts.drops(0, 0, 0), 0);
        Doc.edge("(acts behind them)", acts.within(0, 0), 2);
        String two = Tell.pig(9, 4) + Tell.pig(9, 9);
        HopeBank moved = of(2, two, hopes(4), Tell.drop(0, 0, 0), Tell.drop(0, 1, 0), Tell.drop(0, 1, 1));
        Doc.edges("a HOPE that is out goes into the PIG", new int[] {moved.where(0, 0), moved.where(0, 1),
            moved.misses()}, 0, 0, 6);
        HopeBank slot = of(1, two, hopes(4, 5), Tell.drop(0, 0, 0), Tell.drop(1, 0, 0));
        Doc.edges("its size is no more than the slot", new int[] {slot.where(0, 0), slot.where(1, 0)}, 0, -10);
        HopeBank even = of(1, Tell.pig(5, 9), hopes(3, 2), Tell.drop(0, 0, 0), Tell.drop(1, 0, 0));
        HopeBank over = of(1, Tell.pig(5, 9), hopes(3, 3), Tell.drop(0, 0, 0), Tell.drop(1, 0, 0));
        Doc.edge("no more than the room that is left", even.within(0, 0), 3);
        Doc.edge("no more than the room that is left", over.within(0, 0), 1);
        HopeBank least = of(1, Tell.pig(1, 1), hopes(1, 2), Tell.drop(1, 0, 0), Tell.drop(0, 0, 0));
        Doc.edge("no more than the room that is left", least.within(0, 0), 1);
        HopeBank most = of(1, Tell.pig(60, 9), hopes(9, 9, 9, 9, 9, 9, 6, 1), Tell.drop(0, 0, 0), Tell.drop(1, 0, 0),
            Tell.drop(2, 0, 0), Tell.drop(3, 0, 0), Tell.drop(4, 0, 0), Tell.drop(5, 0, 0), Tell.drop(6, 0, 0),
            Tell.drop(7, 0, 0));
        Doc.edge("no more than the room that is left", most.within(0, 0), 127);
        HopeBank stays = of(2, two, hopes(5), Tell.drop(0, 0, 0), Tell.drop(0, 1, 1));
        Doc.edges("else it stays where it is", new int[] {stays.where(0, 0), stays.where(0, 1)}, -10, 1);
        Doc.edge("HOPES are out at first", of(2, two, hopes(1), Tell.drop(0, 0, 1)).where(0, 0), -10);
        // Drops of the least and of the greatest number, and in a night that is not there.
        HopeBank late = of(19, two, hopes(1, 1), Tell.drop(0, 0, 19), Tell.drop(1, 0, 18));
        Doc.edge("In each NIGHT first DROPS at it", late.within(0, 18), 2);
    }

    private static void thieves() {
        Doc.at("II");
        String pig = Tell.pig(20, 9);
        HopeBank same = of(2, pig, hopes(1), Tell.thief(0, 0, 9), Tell.drop(0, 0, 0));
        Doc.edges("Then THIEVES at it, as told", new int[] {same.takes(0), same.where(0, 0)}, 0, -11);
        HopeBank early = of(2, pig, hopes(1), Tell.thief(0, 0, 9), Tell.drop(0, 0, 1));
        Doc.edges("Then THIEVES at it, as told", new int[] {early.takes(0), early.where(0, 1)}, -1, 0);
        HopeBank two = of(1, pig, hopes(1, 2), Tell.drop(0, 0, 0), Tell.drop(1, 0, 0), Tell.thief(0, 0, 9),
            Tell.thief(0, 0, 1));
        Doc.edges("Then THIEVES at it, as told", new int[] {two.takes(0), two.takes(1)}, 0, -1);
        HopeBank nights = of(2, pig, hopes(1, 2), Tell.drop(0, 0, 0), Tell.drop(1, 0, 0), Tell.thief(1, 0, 9),
            Tell.thief(0, 0, 9));
        Doc.edges("Then THIEVES at it, as told", new int[] {nights.takes(0), nights.takes(1)}, 1, 0);
        HopeBank act = of(1, pig, hopes(1), Tell.thief(0, 0, 9));
        act.drops(0, 0, 0);
        Doc.edge("Then THIEVES at it, as told", act.takes(0), 0);
        HopeBank broken = of(2, pig, hopes(1), Tell.drop(0, 0, 0), Tell.thief(1, 0, 9));
        broken.breaks(0, 0);
        Doc.edges("from a PIG that is whole", new int[] {broken.takes(0), broken.where(0, 1)}, -1, -12);
        HopeBank least = of(1, pig, hopes(3, 2, 2, 4), Tell.drop(0, 0, 0), Tell.drop(2, 0, 0), Tell.drop(1, 0, 0),
            Tell.drop(3, 0, 0), Tell.thief(0, 0, 9));
        Doc.edge("one takes the least HOPE", least.takes(0), 1);
        Doc.edge("(the first of several)", least.takes(0), 1);
        HopeBank other = of(1, pig, pig, hopes(1, 5), Tell.drop(0, 0, 0), Tell.drop(1, 1, 0), Tell.thief(0, 1, 9));
        Doc.edge("one takes the least HOPE", other.takes(0), 1);
        HopeBank fingers = of(1, pig, hopes(3, 4), Tell.drop(0, 0, 0), Tell.drop(1, 0, 0), Tell.thief(0, 0, 2),
            Tell.thief(0, 0, 3), Tell.thief(0, 0, 3));
        Doc.edges("of a size no more than his fingers, if there is one",
            new int[] {fingers.takes(0), fingers.takes(1), fingers.takes(2)}, -1, 0, -1);
        HopeBank ends = of(1, pig, hopes(1, 9), Tell.drop(0, 0, 0), Tell.drop(1, 0, 0), Tell.thief(0, 0, 1),
            Tell.thief(0, 0, 8), Tell.thief(0, 0, 9));
        Doc.edges("of a size no more than his fingers", new int[] {ends.takes(0), ends.takes(1), ends.takes(2)},
            0, -1, 1);
        // One who takes none leaves all as it is, the room too.
        HopeBank none = of(2, Tell.pig(9, 9), hopes(9), Tell.thief(0, 0, 8), Tell.drop(0, 0, 1), Tell.thief(1, 0, 8));
        Doc.edges("if there is one", new int[] {none.takes(0), none.takes(1), none.where(0, 1), none.left(0, 1)},
            -1, -1, 0, 0);
        HopeBank gone = of(3, pig, hopes(1), Tell.drop(0, 0, 0), Tell.thief(0, 0, 9), Tell.drop(0, 0, 1));
        Doc.edges("it is gone for good", new int[] {gone.where(0, 0), gone.where(0, 1), gone.where(0, 2),
            gone.misses()}, -11, -11, -11, 2);
        HopeBank space = of(2, Tell.pig(4, 9), hopes(4, 4), Tell.drop(0, 0, 0), Tell.thief(0, 0, 9),
            Tell.drop(1, 0, 1));
        Doc.edge("the room that is left", space.where(1, 1), 0);
    }

    private static void breaking() {
        Doc.at("II");
        String pig = Tell.pig(20, 9);
        HopeBank first = of(2, pig, hopes(1, 2), Tell.drop(0, 0, 0), Tell.drop(1, 0, 0), Tell.thief(0, 0, 9));
        Doc.edge("Then PIGS broken at it (acts)", first.breaks(0, 0), 2);
        Doc.edge("Then PIGS broken at it (acts)", first.takes(0), 0);
        HopeBank acted = of(1, pig, hopes(1));
        Doc.edge("Then PIGS broken at it (acts)", acted.breaks(0, 0), 0);
        Doc.edge("Then PIGS broken at it (acts)", acted.drops(0, 0, 0), 1);
        Doc.edge("Then PIGS broken at it (acts)", acted.where(0, 0), -12);
        HopeBank gone = of(4, pig, pig, hopes(1, 1), Tell.drop(0, 0, 0), Tell.drop(0, 1, 2), Tell.drop(1, 0, 2));
        Doc.edge("their HOPES are got, and gone", gone.breaks(0, 1), 1);
        Doc.edges("their HOPES are got, and gone", new int[] {gone.where(0, 0), gone.where(0, 1), gone.where(0, 2),
            gone.where(0, 3)}, 0, -12, -12, -12);
        Doc.edges("a broken one stays so", new int[] {gone.where(1, 2), gone.where(1, 3), gone.drops(1, 0, 3),
            gone.misses()}, -10, -10, 0, 6);
        Doc.edge("if that is whole", gone.drops(1, 0, 2), 0);
        Doc.edge("if that is whole", gone.drops(1, 0, 1), 1);
        Doc.edge("if that is whole", gone.where(1, 1), -12);
        HopeBank twice = of(3, pig, hopes(1), Tell.drop(0, 0, 0));
        Doc.edges("a broken one stays so", new int[] {twice.breaks(0, 2), twice.breaks(0, 0), twice.breaks(0, 1),
            twice.got(0)}, 1, 1, 0, 10);
    }

    private static int[] heards(HopeBank bank, int many) {
        int[] answers = new int[many];
        for (int h = 0; h < many; h++) {
            answers[h] = bank.heard(h);
        }
        return answers;
    }

    private static void hearing() {
        Doc.at("III");
        String pig = Tell.pig(20, 9);
        String three = Tell.drop(0, 0, 0) + Tell.drop(1, 0, 0) + Tell.drop(2, 0, 1);
        String louds = Tell.hope(1, 9, 0) + Tell.hope(1, 7, 0) + Tell.hope(1, 0, 0);
        Doc.edges("by LAW 0: its loud", heards(byLaw(0, 0, pig, louds, three), 3), 9, 7, 0);
        String low = Tell.hope(1, 1, 0) + Tell.hope(1, 1, 0) + Tell.hope(1, 1, 0);
        Doc.edges("1: less one for each HOPE in it then (0 at least)", heards(byLaw(1, 0, pig, low, three), 3),
            1, 0, 0);
        Doc.edges("1: less one for each HOPE in it then", heards(byLaw(1, 0, pig, louds, three), 3), 9, 6, 0);
        String back = Tell.hope(2, 9, 0) + Tell.hope(1, 9, 0) + Tell.hope(1, 9, 0);
        // The thief of night 0 leaves one of two in it.
        Doc.edges("in it then", heards(byLaw(1, 0, pig, back, three, Tell.thief(0, 0, 1)), 3), 9, 8, 8);
        Doc.edges("2: all of it into an empty one, else half, cut", heards(byLaw(2, 0, pig, louds, three), 3), 9, 3, 0);
        Doc.edges("2: all of it into an empty one, else half, cut", heards(byLaw(2, 0, pig, low, three), 3), 1, 0, 0);
        String emptied = Tell.hope(1, 8, 0) + Tell.hope(1, 9, 0);
        Doc.edges("into an empty one", heards(byLaw(2, 0, pig, emptied, Tell.drop(0, 0, 0), Tell.thief(0, 0, 1),
            Tell.drop(1, 0, 1)), 2), 8, 9);
        Doc.edges("into an empty one", heards(byLaw(2, 0, pig, emptied, Tell.drop(0, 0, 0), Tell.drop(1, 0, 1)), 2),
            8, 4);
        String filling = Tell.hope(3, 9, 0) + Tell.hope(2, 8, 0);
        String both = Tell.drop(0, 0, 0) + Tell.drop(1, 0, 0);
        Doc.edges("3: its loud, if room is left behind it, else 0",
            heards(byLaw(3, 0, Tell.pig(5, 9), filling, both), 2), 9, 0);
        Doc.edges("3: its loud, if room is left behind it, else 0",
            heards(byLaw(3, 0, Tell.pig(6, 9), filling, both), 2), 9, 8);
        Doc.edges("3: its loud, if room is left behind it, else 0",
            heards(byLaw(3, 0, Tell.pig(3, 9), filling, both), 2), 0, -1);
        String steps = Tell.hope(1, 3, 0) + Tell.hope(1, 4, 0) + Tell.hope(1, 5, 0) + Tell.hope(1, 9, 0);
        Doc.edge("It is KNOWN, if that is above quiet", byLaw(0, 4, pig, steps, three).known(), 4);
        Doc.edge("It is KNOWN, if that is above quiet", byLaw(0, 3, pig, steps, three).known(), 6);
        Doc.edge("It is KNOWN, if that is above quiet", byLaw(0, 9, pig, steps, three, Tell.drop(3, 0, 0)).known(), 0);
        Doc.edge("It is KNOWN, if that is above quiet", byLaw(0, 0, pig, louds, three).known(), 3);
        // By law 1 the second is heard 4 - 1, the third 5 - 2: what is HEARD counts, not its loud.
        Doc.edge("It is KNOWN, if that is above quiet", byLaw(1, 3, pig, steps, three).known(), 0);
        Doc.edge("A HOPE that goes into a PIG is HEARD so loud", byLaw(0, 0, pig, steps, three).heard(3), -1);
    }

    private static void rattleAndValue() {
        Doc.at("IV");
        String louds = Tell.hope(2, 3, 7) + Tell.hope(2, 2, 0);
        String both = Tell.drop(0, 0, 0) + Tell.drop(1, 0, 1);
        int[][] roomAndRattle = {{4, 2, 0}, {8, 3, 4}, {9, 3, 5}, {10, 3, 5}};
        for (int[] r : roomAndRattle) {
            HopeBank bank = of(3, Tell.pig(r[0], 9), louds, both);
            Doc.edge("RATTLE of a PIG: loud of all HOPES in it, together", bank.rattle(0, 0), r[1]);
            Doc.edge("but no more than the room that is left", bank.rattle(0, 1), r[2]);
        }
        HopeBank bank = of(4, Tell.pig(9, 9), Tell.pig(9, 9), louds, Tell.drop(0, 0, 1), Tell.drop(1, 0, 2));
        Doc.edges("worth, and 1 for each NIGHT for which it has been in it ahead of this one",
            new int[] {bank.rich(0, 0), bank.rich(0, 1), bank.rich(0, 2), bank.rich(0, 3)}, 0, 7, 8, 9);
        Doc.edges("of all HOPES in it.", new int[] {bank.value(0, 0), bank.value(0, 1), bank.value(0, 2),
            bank.value(0, 3)}, 0, 7, 8, 10);
        Doc.edge("VALUE of a PIG: of all HOPES in it", bank.value(1, 3), 0);
        HopeBank twenty = of(20, Tell.pig(9, 9), Tell.hope(9, 9, 80), Tell.drop(0, 0, 0));
        Doc.edge("VALUE of a HOPE that is in a PIG at the end of a NIGHT", twenty.rich(0, 19), 99);
    }

    private static void ofTheTown() {
        HopeBank none = new HopeBank();
        HopeBank bare = of(2);
        Doc.at(10);
        HopeBank bank = of(2, Tell.pig(9, 4), Tell.hope(5, 0, 0), Tell.hope(4, 0, 0), Tell.hope(4, 1, 0),
            Tell.hope(1, 0, 0), Tell.drop(0, 0, 0), Tell.drop(1, 0, 0), Tell.drop(2, 0, 2), Tell.drop(1, 0, 1),
            Tell.drop(2, 0, 1), Tell.drop(3, 0, 19));
        Doc.edge("DROPS told that do not go in (also of no NIGHT there is), as bits", bank.misses(), 1 + 4 + 8 + 32);
        Doc.edge("DROPS told that do not go in", bank.drops(0, 0, 0), 0);
        Doc.edge("DROPS told that do not go in", bank.misses(), 1 + 4 + 8 + 32);
        Doc.edge("DROPS told that do not go in", bank.drops(2, 0, 0), 1);
        Doc.edge("DROPS told that do not go in", bank.misses(), 1 + 4 + 8 + 16 + 32);
        HopeBank ten = of(1, Tell.pig(9, 4), Tell.hope(5, 0, 0), Tell.drop(0, 0, 0).repeat(10));
        Doc.edge("as bits", ten.misses(), 1023);
        Doc.edge("as bits", bare.misses(), 0);
        Doc.edge("-2: there is no TOWN", none.misses(), -2);
        Doc.at(11);
        HopeBank silent = of(2, Tell.pig(9, 4), Tell.hope(1, 0, 0), Tell.hope(2, 1, 0), Tell.hope(1, 0, 0),
            Tell.hope(1, 0, 0), Tell.drop(0, 0, 0), Tell.drop(1, 0, 0), Tell.drop(2, 0, 1), Tell.thief(0, 0, 1));
        Doc.edge("HOPES that go into a PIG and are HEARD 0 loud, as bits", silent.silent(), 5);
        silent.drops(3, 0, 1);
        Doc.edge("HOPES that go into a PIG and are HEARD 0 loud, as bits", silent.silent(), 13);
        Doc.edge("as bits", bare.silent(), 0);
        Doc.edge("-2 likewise", none.silent(), -2);
        Doc.at(17);
        HopeBank crowd = of(2, Tell.pig(9, 4), Tell.pig(9, 9), hopes(1, 2, 3, 1), Tell.drop(0, 0, 0),
            Tell.drop(1, 0, 0), Tell.drop(2, 0, 0), Tell.drop(3, 1, 1), Tell.thief(0, 0, 1), Tell.thief(1, 0, 9));
        Doc.edge("The most HOPES in one PIG at the end of a NIGHT", crowd.crowd(), 2);
        HopeBank eight = of(1, Tell.pig(8, 1), Tell.hope(1, 0, 0).repeat(8), Tell.drop(0, 0, 0), Tell.drop(1, 0, 0),
            Tell.drop(2, 0, 0), Tell.drop(3, 0, 0), Tell.drop(4, 0, 0), Tell.drop(5, 0, 0), Tell.drop(6, 0, 0),
            Tell.drop(7, 0, 0));
        Doc.edge("The most HOPES in one PIG", eight.crowd(), 8);
        Doc.edge("The most HOPES in one PIG", bare.crowd(), 0);
        Doc.edge("-2: there is no TOWN", none.crowd(), -2);
        Doc.at(21);
        String five = Tell.pig(9, 9).repeat(5);
        HopeBank victims = of(2, five, hopes(3, 3, 3), Tell.drop(0, 4, 0), Tell.drop(1, 1, 0), Tell.drop(2, 0, 0),
            Tell.thief(1, 4, 3), Tell.thief(0, 1, 2), Tell.thief(0, 2, 9), Tell.thief(5, 0, 9), Tell.thief(1, 4, 9));
        Doc.edge("PIGS from which a HOPE is stolen, as bits", victims.victims(), 16);
        Doc.edge("PIGS from which a HOPE is stolen, as bits", bare.victims(), 0);
        Doc.edge("-2: there is no TOWN", none.victims(), -2);
        Doc.at(26);
        HopeBank known = byLaw(0, 2, Tell.pig(9, 9), Tell.hope(1, 3, 0), Tell.hope(1, 2, 0), Tell.hope(1, 9, 0),
            Tell.drop(0, 0, 0), Tell.drop(1, 0, 0), Tell.thief(0, 0, 9));
        Doc.edge("HOPES that are KNOWN (III), as bits", known.known(), 1);
        Doc.edge("HOPES that are KNOWN (III), as bits", bare.known(), 0);
        Doc.edge("-2: there is no TOWN", none.known(), -2);
    }

    private static void byNight() {
        HopeBank none = new HopeBank();
        HopeBank bare = of(2);
        HopeBank bank = of(3, Tell.pig(9, 9).repeat(5), Tell.hope(1, 0, 20), Tell.hope(2, 0, 30), Tell.drop(0, 1, 0),
            Tell.drop(1, 4, 0), Tell.thief(1, 1, 9));
        Doc.at(12);
        Doc.edges("PIGS with no HOPE in them at the end of a NIGHT, as bits",
            new int[] {bank.empties(0), bank.empties(1)}, 1 + 4 + 8, 1 + 2 + 4 + 8);
        bank.breaks(4, 2);
        Doc.edge("PIGS with no HOPE in them at the end of a NIGHT, as bits", bank.empties(2), 31);
        Doc.edge("PIGS with no HOPE in them", bare.empties(1), 0);
        Wrong.one("-2: there is none such", bank::empties, 3);
        Doc.edge("-2: there is none such", none.empties(0), -2);
        Doc.at(31);
        Doc.edges("VALUE of all PIGS at the end of a NIGHT", new int[] {bank.all(0), bank.all(1), bank.all(2)},
            50, 31, 0);
        Doc.edge("VALUE of all PIGS at the end of a NIGHT", bare.all(0), 0);
        Wrong.one("-2: there is none such", bank::all, 3);
        Doc.edge("-2: there is none such", none.all(0), -2);
        Doc.at(32);
        Doc.edges("HOPES that are stolen to the end of a NIGHT, as bits",
            new int[] {bank.stolen(0), bank.stolen(1), bank.stolen(2)}, 0, 1, 1);
        Wrong.one("-2 likewise", bank::stolen, 3);
        Doc.edge("-2 likewise", none.stolen(0), -2);
        Doc.at(35);
        Doc.edges("Worth of all HOPES that are got to the end of a NIGHT", new int[] {bank.got(0), bank.got(1)}, 0, 0);
        // At night 2 it has been in the pig for two nights.
        Doc.edge("(as told, without VALUE for NIGHTS)", bank.got(2), 30);
        bank.breaks(1, 0);
        Doc.edges("to the end of a NIGHT", new int[] {bank.got(0), bank.got(1), bank.got(2)}, 20, 20, 50);
        Wrong.one("-2: there is none such", bank::got, 3);
        Doc.edge("-2: there is none such", none.got(0), -2);
    }

    private static void heaviestAndLoudest() {
        HopeBank none = new HopeBank();
        HopeBank bank = of(4, Tell.pig(9, 9).repeat(3), Tell.hope(2, 3, 0), Tell.hope(2, 3, 0), Tell.hope(1, 1, 0),
            Tell.drop(0, 1, 1), Tell.drop(1, 2, 1), Tell.drop(2, 2, 2), Tell.thief(3, 2, 9));
        Doc.at(13);
        Doc.edge("NONE: none", bank.heavy(0), -1);
        Doc.edge("The PIG with the greatest weight() then, the first of several", bank.heavy(1), 1);
        Doc.edge("The PIG with the greatest weight() then", bank.heavy(2), 2);
        Doc.edge("The PIG with the greatest weight() then, the first of several", bank.heavy(3), 1);
        Doc.edge("if above 0", of(1, Tell.pig(1, 1)).heavy(0), -1);
        Doc.edge("if above 0", of(1, Tell.pig(1, 1), Tell.hope(1, 0, 0), Tell.drop(0, 0, 0)).heavy(0), 0);
        Doc.edge("NONE: none", of(1).heavy(0), -1);
        Wrong.one("-2 likewise", bank::heavy, 4);
        Doc.edge("-2 likewise", none.heavy(0), -2);
        Doc.at(37);
        Doc.edge("NONE: none", bank.loudest(0), -1);
        Doc.edge("The PIG of the greatest RATTLE at the end of a NIGHT, the first of several", bank.loudest(1), 1);
        Doc.edge("The PIG of the greatest RATTLE at the end of a NIGHT", bank.loudest(2), 2);
        Doc.edge("The PIG of the greatest RATTLE at the end of a NIGHT, the first of several", bank.loudest(3), 1);
        HopeBank full = of(1, Tell.pig(2, 9), Tell.hope(2, 9, 0), Tell.drop(0, 0, 0));
        Doc.edge("if above 0", full.loudest(0), -1);
        HopeBank quiet = of(1, Tell.pig(2, 9), Tell.hope(1, 0, 0), Tell.drop(0, 0, 0));
        Doc.edge("if above 0", quiet.loudest(0), -1);
        HopeBank low = of(1, Tell.pig(2, 9), Tell.hope(1, 1, 0), Tell.drop(0, 0, 0));
        Doc.edge("if above 0", low.loudest(0), 0);
        Doc.edge("NONE: none", of(1).loudest(0), -1);
        Wrong.one("-2: there is none such", bank::loudest, 4);
        Doc.edge("-2: there is none such", none.loudest(0), -2);
    }

    private static void oldestAndSmall() {
        HopeBank bank = of(4, Tell.pig(30, 9), Tell.pig(9, 9), hopes(5, 4, 4, 3), Tell.drop(3, 0, 0),
            Tell.drop(2, 0, 1), Tell.drop(1, 0, 1), Tell.drop(0, 0, 2), Tell.thief(2, 0, 3));
        Doc.at(14);
        Doc.edges("The HOPE that has been longest in a PIG of those in it at the end of a NIGHT",
            new int[] {bank.oldest(0, 0), bank.oldest(0, 1)}, 3, 3);
        // Hope 3 is stolen; 2 and 1 are of one night.
        Doc.edge("of those in it at the end of a NIGHT, the first of several", bank.oldest(0, 2), 1);
        Doc.edge("NONE: none is", bank.oldest(1, 3), -1);
        Wrong.two("-2: there are none such", bank::oldest, 2, 4);
        Doc.edge("-2: there are none such", new HopeBank().oldest(0, 0), -2);
        Doc.edge("the first of several", of(1, Tell.pig(9, 9), hopes(1, 1), Tell.drop(1, 0, 0),
            Tell.drop(0, 0, 0)).oldest(0, 0), 0);
        HopeBank last = of(20, Tell.pig(30, 9), hopes(1, 1), Tell.drop(1, 0, 19));
        Doc.edge("The HOPE that has been longest", last.oldest(0, 19), 1);
        Doc.at(15);
        Doc.edges("The least HOPE (by size) of those, the first of several",
            new int[] {bank.small(0, 0), bank.small(0, 1), bank.small(0, 2), bank.small(0, 3)}, 3, 3, 1, 1);
        Doc.edge("The least HOPE (by size) of those", last.small(0, 19), 1);
        Doc.edge("the first of several", of(1, Tell.pig(9, 9), hopes(1, 1), Tell.drop(1, 0, 0),
            Tell.drop(0, 0, 0)).small(0, 0), 0);
        HopeBank nine = of(1, Tell.pig(9, 9), hopes(1, 9), Tell.drop(1, 0, 0));
        Doc.edge("The least HOPE (by size) of those", nine.small(0, 0), 1);
        Doc.edge("NONE, -2 likewise", bank.small(1, 3), -1);
        Wrong.two("NONE, -2 likewise", bank::small, 2, 4);
        Doc.edge("NONE, -2 likewise", new HopeBank().small(0, 0), -2);
    }

    private static void ofHopes() {
        HopeBank bank = of(4, Tell.pig(9, 9), Tell.pig(9, 9), Tell.hope(1, 0, 20), Tell.hope(2, 7, 30),
            Tell.hope(3, 1, 40), Tell.drop(0, 1, 0), Tell.drop(1, 0, 3), Tell.thief(1, 1, 9));
        HopeBank none = new HopeBank();
        Doc.at(16);
        Doc.edge("VALUE (IV) of a HOPE at the end of a NIGHT", bank.rich(0, 0), 20);
        Doc.edge("VALUE (IV) of a HOPE at the end of a NIGHT", bank.rich(1, 3), 30);
        Doc.edges("(0: it is in no PIG)", new int[] {bank.rich(0, 1), bank.rich(1, 2), bank.rich(2, 3)}, 0, 0, 0);
        Wrong.two("-2: there are none such", bank::rich, 3, 4);
        Doc.edge("-2: there are none such", none.rich(0, 0), -2);
        Doc.at(23);
        Doc.edges("Where a HOPE is at the end of a NIGHT: its PIG", new int[] {bank.where(0, 0), bank.where(1, 3)},
            1, 0);
        Doc.edges("-10: out", new int[] {bank.where(1, 0), bank.where(1, 2), bank.where(2, 3)}, -10, -10, -10);
        Doc.edges("-11: stolen", new int[] {bank.where(0, 1), bank.where(0, 3)}, -11, -11);
        Wrong.two("-2: there are none such", bank::where, 3, 4);
        Doc.edge("-2: there are none such", none.where(0, 0), -2);
        Doc.at(24);
        Doc.edges("The NIGHT in which a HOPE goes into a PIG", new int[] {bank.falls(0), bank.falls(1)}, 0, 3);
        Doc.edge("NONE: in none", bank.falls(2), -1);
        Wrong.one("-2: there is none such", bank::falls, 3);
        Doc.edge("-2: there is none such", none.falls(0), -2);
        Doc.at(25);
        Doc.edges("How loud it is HEARD then", new int[] {bank.heard(0), bank.heard(1)}, 0, 7);
        Doc.edge("NONE: it goes into none", bank.heard(2), -1);
        Wrong.one("-2 likewise", bank::heard, 3);
        Doc.edge("-2 likewise", none.heard(0), -2);
        Doc.at(36);
        Doc.edge("HOPES that are out at the end of the last NIGHT, as bits", bank.out(), 4);
        bank.breaks(0, 3);
        Doc.edge("HOPES that are out at the end of the last NIGHT, as bits", bank.out(), 4);
        Doc.edge("HOPES that are out at the end of the last NIGHT, as bits", of(1).out(), 0);
        Doc.edge("HOPES that are out at the end of the last NIGHT, as bits",
            of(1, Tell.hope(1, 0, 0).repeat(8)).out(), 255);
        Doc.edge("-2: there is no TOWN", none.out(), -2);
        Doc.at(23);
        Doc.edges("-12: got", new int[] {bank.where(1, 2), bank.where(1, 3)}, -10, -12);
        Doc.at(16);
        Doc.edge("(0: it is in no PIG)", bank.rich(1, 3), 0);
    }

    private static void ofPigs() {
        HopeBank none = new HopeBank();
        // Pig 0: hope 0 (loud 9) is stolen in its night, hope 1 (loud 5) later, hope 2 (loud 0) stays.
        HopeBank bank = of(4, Tell.pig(9, 9), Tell.pig(3, 9), Tell.pig(7, 9), Tell.hope(1, 9, 50), Tell.hope(2, 5, 30),
            Tell.hope(3, 0, 1), Tell.hope(3, 0, 2), Tell.drop(0, 0, 0), Tell.thief(0, 0, 1), Tell.drop(1, 0, 1),
            Tell.thief(2, 0, 2), Tell.drop(2, 0, 1), Tell.drop(3, 1, 3));
        Doc.at(18);
        Doc.edge("those that are in a PIG at the end of the NIGHT in which they go into it", bank.loud(0), 5);
        Doc.edge("How loud the loudest HOPE is HEARD", bank.loud(1), 0);
        Doc.edge("How loud the loudest HOPE is HEARD", of(1, Tell.pig(9, 9), Tell.hope(1, 9, 0),
            Tell.drop(0, 0, 0)).loud(0), 9);
        Doc.edge("NONE: none is", bank.loud(2), -1);
        Wrong.one("-2: there is none such", bank::loud, 3);
        Doc.edge("-2: there is none such", none.loud(0), -2);
        HopeBank broken = of(2, Tell.pig(9, 9), Tell.hope(1, 9, 50), Tell.drop(0, 0, 0));
        broken.breaks(0, 0);
        Doc.edge("NONE: none is", broken.loud(0), -1);
        Doc.at(19);
        // At the ends of its nights pig 0 is worth 0, 31, 2, 3.
        Doc.edges("By how much the greatest VALUE of a PIG is more than that at the last NIGHT's end",
            new int[] {bank.gains(0), bank.gains(1), bank.gains(2)}, 28, 0, 0);
        Wrong.one("-2 likewise", bank::gains, 3);
        Doc.edge("-2 likewise", none.gains(0), -2);
        Doc.at(20);
        Doc.edges("The least room that is left in a PIG at the end of any NIGHT",
            new int[] {bank.tight(0), bank.tight(1), bank.tight(2)}, 4, 0, 7);
        HopeBank robbed = of(2, Tell.pig(1, 1), Tell.hope(1, 0, 0), Tell.drop(0, 0, 0), Tell.thief(0, 0, 1));
        Doc.edge("at the end of any NIGHT", robbed.tight(0), 1);
        HopeBank early = of(2, Tell.pig(1, 1), Tell.hope(1, 0, 0), Tell.drop(0, 0, 0), Tell.thief(1, 0, 1));
        Doc.edge("at the end of any NIGHT", early.tight(0), 0);
        Wrong.one("-2: there is none such", bank::tight, 3);
        Doc.edge("-2: there is none such", none.tight(0), -2);
    }

    private static void inAPig() {
        HopeBank none = new HopeBank();
        HopeBank bank = of(3, Tell.pig(10, 9), Tell.pig(1, 1), Tell.hope(4, 3, 20), Tell.hope(6, 2, 30),
            Tell.drop(0, 0, 0), Tell.drop(1, 0, 1), Tell.thief(2, 0, 5));
        Doc.at(22);
        Doc.edges("HOPES in a PIG at the end of a NIGHT, as bits", new int[] {bank.within(0, 0), bank.within(0, 1),
            bank.within(0, 2), bank.within(1, 0)}, 1, 3, 2, 0);
        Wrong.two("-2: there are none such", bank::within, 2, 3);
        Doc.edge("-2: there are none such", none.within(0, 0), -2);
        Doc.at(27);
        Doc.edges("The size of all HOPES in a PIG at the end of a NIGHT, together",
            new int[] {bank.weight(0, 0), bank.weight(0, 1), bank.weight(0, 2), bank.weight(1, 0)}, 4, 10, 6, 0);
        Wrong.two("-2: there are none such", bank::weight, 2, 3);
        Doc.edge("-2: there are none such", none.weight(0, 0), -2);
        Doc.at(28);
        Doc.edges("Room that is left then", new int[] {bank.left(0, 0), bank.left(0, 1), bank.left(0, 2),
            bank.left(1, 0)}, 6, 0, 4, 1);
        Wrong.two("-2 likewise", bank::left, 2, 3);
        Doc.edge("-2 likewise", none.left(0, 0), -2);
        Doc.at(29);
        Doc.edges("RATTLE (IV) then", new int[] {bank.rattle(0, 0), bank.rattle(0, 1), bank.rattle(0, 2),
            bank.rattle(1, 0)}, 3, 0, 2, 0);
        Wrong.two("-2 likewise", bank::rattle, 2, 3);
        Doc.edge("-2 likewise", none.rattle(0, 0), -2);
        Doc.at(30);
        Doc.edges("VALUE of a PIG then", new int[] {bank.value(0, 0), bank.value(0, 1), bank.value(0, 2),
            bank.value(1, 0)}, 20, 51, 31, 0);
        Wrong.two("-2 likewise", bank::value, 2, 3);
        Doc.edge("-2 likewise", none.value(0, 0), -2);
    }

    private static void stolenAndGot() {
        HopeBank none = new HopeBank();
        HopeBank bank = of(3, Tell.pig(30, 9), Tell.hope(1, 0, 20), Tell.hope(2, 0, 80), Tell.hope(3, 0, 7),
            Tell.drop(0, 0, 0), Tell.drop(1, 0, 0), Tell.drop(2, 0, 0), Tell.thief(2, 0, 9), Tell.thief(1, 0, 1),
            Tell.thief(3, 0, 9), Tell.thief(2, 0, 2));
        Doc.at(33);
        Doc.edges("The HOPE that a THIEF takes", new int[] {bank.takes(0), bank.takes(1)}, 1, 0);
        Doc.edges("NONE: none", new int[] {bank.takes(2), bank.takes(3)}, -1, -1);
        Wrong.one("-2: there is none such", bank::takes, 4);
        Doc.edge("-2: there is none such", none.takes(0), -2);
        Doc.at(34);
        Doc.edge("Worth of all HOPES that are ever stolen", bank.loss(), 100);
        Doc.edge("Worth of all HOPES that are ever stolen", of(1).loss(), 0);
        Doc.edge("-2: there is no TOWN", none.loss(), -2);
        Doc.at(32);
        Doc.edges("to the end of a NIGHT", new int[] {bank.stolen(0), bank.stolen(1), bank.stolen(2)}, 0, 1, 3);
        Doc.at(35);
        bank.breaks(0, 2);
        Doc.edges("Worth of all HOPES that are got", new int[] {bank.got(1), bank.got(2)}, 0, 7);
    }

    private static void fullAndBest() {
        HopeBank none = new HopeBank();
        HopeBank bank = of(4, Tell.pig(5, 9), Tell.pig(5, 9), Tell.pig(5, 9), Tell.hope(3, 0, 0), Tell.hope(2, 0, 20),
            Tell.hope(5, 0, 20), Tell.hope(5, 0, 0), Tell.drop(0, 0, 1), Tell.drop(1, 0, 2), Tell.drop(2, 1, 0),
            Tell.thief(0, 1, 9), Tell.drop(3, 1, 3));
        Doc.at(38);
        Doc.edges("The first NIGHT at whose end a PIG has no room left", new int[] {bank.full(0), bank.full(1)}, 2, 3);
        Doc.edge("NONE: at none", bank.full(2), -1);
        Wrong.one("-2: there is none such", bank::full, 3);
        Doc.edge("-2: there is none such", none.full(0), -2);
        HopeBank nearly = of(1, Tell.pig(6, 9), Tell.hope(5, 0, 0), Tell.drop(0, 0, 0));
        Doc.edge("NONE: at none", nearly.full(0), -1);
        Doc.edge("The first NIGHT at whose end a PIG has no room left",
            of(2, Tell.pig(5, 9), Tell.hope(5, 0, 0), Tell.drop(0, 0, 0)).full(0), 0);
        bank.breaks(0, 2);
        Doc.edge("NONE: at none", bank.full(0), -1);
        bank.undo();
        Doc.at(39);
        Doc.edge("The NIGHT at whose end VALUE of a PIG is greatest", bank.best(0), 3);
        // Hope 3 of worth 0 falls at the last night: never above 0.
        Doc.edge("if above 0", bank.best(1), -1);
        Doc.edge("NONE: none", bank.best(2), -1);
        // Worth 0, 1, 2 at nights 0 to 2, then hope 1 of worth 2 alone.
        HopeBank ties = of(4, Tell.pig(9, 9), Tell.hope(1, 0, 0), Tell.hope(2, 0, 2), Tell.drop(0, 0, 0),
            Tell.drop(1, 0, 3), Tell.thief(3, 0, 1));
        Doc.edge("the first of several", ties.best(0), 2);
        Doc.edge("the first of several", ties.gains(0), 0);
        HopeBank first = of(3, Tell.pig(9, 9), Tell.hope(1, 0, 1), Tell.drop(0, 0, 0), Tell.thief(1, 0, 1));
        Doc.edge("if above 0", first.best(0), 0);
        Doc.edge("if above 0", of(2, Tell.pig(9, 9), Tell.hope(1, 0, 0), Tell.drop(0, 0, 0)).best(0), 1);
        Wrong.one("-2: there is none such", bank::best, 3);
        Doc.edge("-2: there is none such", none.best(0), -2);
    }

    private static void may() {
        Doc.at(40);
        HopeBank bank = of(3, Tell.pig(5, 4), Tell.pig(9, 9), hopes(4, 3, 5, 2, 1), Tell.drop(3, 0, 1),
            Tell.thief(1, 0, 9), Tell.drop(4, 1, 2));
        // Each alone: hopes of size 4 and 3 would, not both; 5 is more than the slot. Hopes 3 and 4 are out still.
        Doc.edge("HOPES that would go into a PIG, each dropped besides at a NIGHT", bank.may(0, 0), 1 + 2 + 8 + 16);
        // Hope 3 is in it, and the thief comes behind: room 3.
        Doc.edge("(as the last DROP of it), as bits", bank.may(0, 1), 2 + 16);
        // Hope 4 goes into the other pig ahead of it.
        Doc.edge("(as the last DROP of it), as bits", bank.may(0, 2), 1 + 2);
        bank.drops(1, 0, 2);
        Doc.edge("(as the last DROP of it)", bank.may(0, 2), 0);
        bank.undo();
        bank.breaks(0, 2);
        Doc.edge("HOPES that would go into a PIG", bank.may(0, 2), 1 + 2);
        bank.breaks(0, 1);
        Doc.edge("HOPES that would go into a PIG", bank.may(0, 2), 0);
        Doc.edge("HOPES that would go into a PIG", bank.count(8), 2);
        Wrong.two("-2: there are none such", bank::may, 2, 3);
        Doc.edge("-2: there are none such", new HopeBank().may(0, 0), -2);
        HopeBank eight = of(1, Tell.pig(9, 9), Tell.hope(9, 0, 0).repeat(8));
        Doc.edge("each dropped besides at a NIGHT", eight.may(0, 0), 255);
        // A year drawn ahead of it, in which no thief comes, changes nothing.
        HopeBank drawn = Check.bankOf(Tell.town(2, 0, 0, 0) + Tell.pig(3, 9) + hopes(3, 3) + Tell.drop(0, 0, 0)
            + Tell.thief(0, 0, 9));
        drawn.drawn(0, 1);
        Doc.edge("HOPES that would go into a PIG", drawn.may(0, 1), 2);
    }

    private static void needs() {
        Doc.at(41);
        String all = "by which all DROPS told into it (not acts) go in";
        HopeBank bank = of(2, Tell.pig(50, 9), Tell.pig(1, 9), hopes(4, 3, 9), Tell.drop(0, 0, 0), Tell.drop(1, 0, 1));
        Doc.edge("The least room (1 .. 60) of a PIG, in place of its own", bank.needs(0), 7);
        Doc.edge(all, bank.needs(1), 1);
        bank.drops(2, 0, 1);
        Doc.edge(all, bank.needs(0), 7);
        bank.anew();
        bank.drops(2, 0, 0);
        // With room 13 or more the act goes in ahead of hope 1; with 7 to 12 it does not.
        Doc.edge("all else as it is", bank.needs(0), 7);
        HopeBank inWay = of(2, Tell.pig(1, 9), hopes(4, 3, 1), Tell.drop(0, 0, 0), Tell.drop(1, 0, 1));
        inWay.drops(2, 0, 0);
        Doc.edge("all else as it is", inWay.needs(0), 8);
        Doc.edge("in place of its own", inWay.pig(0, 0), 1);
        String sixty = hopes(9, 9, 9, 9, 9, 9, 6, 1);
        StringBuilder seven = new StringBuilder();
        for (int h = 0; h < 7; h++) {
            seven.append(Tell.drop(h, 0, 0));
        }
        Doc.edge("(1 .. 60)", of(1, Tell.pig(1, 9), sixty, seven.toString()).needs(0), 60);
        Doc.edge("NONE: by none", of(1, Tell.pig(60, 9), sixty, seven.toString(), Tell.drop(7, 0, 0)).needs(0), -1);
        Doc.edge("NONE: by none", of(1, Tell.pig(60, 3), hopes(4), Tell.drop(0, 0, 0)).needs(0), -1);
        Doc.edge("NONE: by none", of(1, Tell.pig(60, 9), hopes(4), Tell.drop(0, 0, 1)).needs(0), -1);
        Doc.edge("NONE: by none", of(1, Tell.pig(60, 9), hopes(4), Tell.drop(0, 0, 0).repeat(2)).needs(0), -1);
        HopeBank freed = of(2, Tell.pig(60, 9), hopes(4, 4), Tell.drop(0, 0, 0), Tell.thief(0, 0, 9),
            Tell.drop(1, 0, 1));
        Doc.edge(all, freed.needs(0), 4);
        // What is told into another pig does not matter, though it does not go in.
        HopeBank others = of(1, Tell.pig(1, 1), Tell.pig(60, 9), hopes(5, 4), Tell.drop(0, 0, 0), Tell.drop(1, 1, 0),
            Tell.drop(0, 0, 19));
        Doc.edges(all, new int[] {others.needs(1), others.needs(0)}, 4, -1);
        freed.breaks(0, 0);
        Doc.edge("all else as it is", freed.needs(0), -1);
        HopeBank drawn = Check.bankOf(Tell.town(2, 0, 0, 0) + Tell.pig(60, 9) + hopes(4, 4) + Tell.drop(0, 0, 0)
            + Tell.thief(0, 0, 9) + Tell.drop(1, 0, 1));
        drawn.drawn(0, 1);
        Doc.edge("all else as it is", drawn.needs(0), 4);
        Wrong.one("-2: there is none such", bank::needs, 2);
        Doc.edge("-2: there is none such", new HopeBank().needs(0), -2);
    }

    private static void ward() {
        Doc.at(42);
        String three = Tell.pig(30, 9) + Tell.hope(1, 0, 10) + Tell.hope(2, 0, 10) + Tell.hope(3, 0, 40)
            + Tell.drop(0, 0, 0) + Tell.drop(1, 0, 0) + Tell.drop(2, 0, 0);
        String words = "The THIEF without whom VALUE of all PIGS at the last NIGHT's end is greatest";
        // Each of them takes one; without any the greatest one stays.
        HopeBank ties = of(2, three, Tell.thief(1, 0, 9), Tell.thief(0, 0, 9), Tell.thief(1, 0, 9));
        Doc.edge("if greater than now, the first of several", ties.ward(), 0);
        HopeBank second = of(2, three, Tell.thief(0, 0, 1), Tell.thief(0, 0, 3), Tell.thief(1, 0, 3));
        // Without thief 0: the others take hopes 0 and 1, 41 stays. Without thief 1: hope 1 is taken at 1: 41 too.
        Doc.edge(words, second.ward(), 0);
        HopeBank greater = of(2, three, Tell.thief(0, 0, 1), Tell.pig(9, 9), Tell.hope(1, 0, 11), Tell.drop(3, 1, 0),
            Tell.thief(0, 1, 9));
        Doc.edge(words, greater.ward(), 1);
        HopeBank nothing = of(2, Tell.pig(9, 9), Tell.hope(1, 0, 0), Tell.drop(0, 0, 1), Tell.thief(1, 0, 9));
        Doc.edge("if greater than now", nothing.ward(), -1);
        HopeBank one = of(2, Tell.pig(9, 9), Tell.hope(1, 0, 0), Tell.drop(0, 0, 0), Tell.thief(1, 0, 9));
        Doc.edge("if greater than now", one.ward(), 0);
        Doc.edge("NONE: none", of(2, three).ward(), -1);
        Doc.edge("NONE: none", of(2).ward(), -1);
        HopeBank sixth = of(2, three, Tell.thief(5, 0, 9).repeat(5), Tell.thief(1, 0, 9));
        Doc.edge(words, sixth.ward(), 5);
        sixth.breaks(0, 1);
        Doc.edge("if greater than now", sixth.ward(), -1);
        // What is got does not count, neither now nor without him.
        HopeBank broken = of(1, Tell.pig(9, 9), Tell.pig(9, 9), Tell.hope(1, 0, 80), Tell.hope(1, 0, 3),
            Tell.drop(0, 0, 0), Tell.drop(1, 1, 0), Tell.thief(0, 1, 9));
        broken.breaks(0, 0);
        Doc.edge("VALUE of all PIGS at the last NIGHT's end", broken.ward(), 0);
        HopeBank drawn = Check.bankOf(Tell.town(2, 0, 0, 0) + three + Tell.thief(1, 0, 9));
        drawn.drawn(0, 1);
        Doc.edge("if greater than now", drawn.ward(), 0);
        Doc.edge("-2: there is no TOWN", new HopeBank().ward(), -2);
    }
}
