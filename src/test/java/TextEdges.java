/** Edges of the tape, the text and what is told by it: terms I, TOKENS, FAULTS; promises 1 to 9 and 67. */
final class TextEdges {
    private static final String HEAD = Tell.town(4, 1, 2, 5);
    private static final String PIG = Tell.pig(5, 3);
    private static final String HOPE = Tell.hope(1, 1, 1);
    private static final String DROP = Tell.drop(0, 0, 0);
    private static final String THIEF = Tell.thief(0, 0, 1);
    private static final String FULL = HEAD + PIG.repeat(4) + Tell.pig(60, 9) + HOPE.repeat(7) + Tell.hope(9, 9, 80)
        + DROP.repeat(9) + Tell.drop(7, 4, 19) + THIEF.repeat(5) + Tell.thief(19, 4, 9);

    private TextEdges() {
    }

    static void all() {
        calls();
        lines();
        bounds();
        toldAhead();
        numbers();
        tokens();
        faults();
        newObject();
        feed();
        end();
        town();
        townFaulty();
        fault();
        told();
        count();
    }

    /** The fault, its place and how many lines a text has, read by a new bank. */
    private static int[] read(String text) {
        HopeBank bank = new HopeBank();
        Check.feed(bank, text);
        int lines = bank.town();
        return new int[] {lines, bank.fault(0), bank.fault(1)};
    }

    private static void fine(String words, String text, int lines) {
        Doc.edges(words, read(text), lines, 0, -1);
    }

    private static void faulty(String words, String text, int fault, int place) {
        Doc.edges(words, read(text), -4, fault, place);
    }

    private static void calls() {
        Doc.at("An object");
        HopeBank bank = new HopeBank();
        String text = HEAD + PIG + HOPE + DROP;
        Check.feed(bank, text);
        // The calls of Check.feed: the tape's length, the bytes, the end.
        int calls = 1 + (text.length() + 19) / 20 + 1;
        bank.town();
        calls++;
        boolean undone = true;
        for (; calls < 511; calls++) {
            Check.due("call " + calls, undone ? bank.drops(0, 0, 3) : bank.undo(), 0);
            undone = !undone;
        }
        Doc.edge("at most 512 calls after it has been made", bank.within(0, 3), 1);
    }

    private static void lines() {
        Doc.at("I");
        fine("TOWN: {LINE ;}", "", 0);
        fine("TOWN: {LINE ;}", HEAD, 1);
        fine("TOWN: {LINE ;}", HEAD + PIG, 2);
        faulty("TOWN: {LINE ;}", HEAD + "pig room 5 slot 3", 1, HEAD.length() + 17);
        faulty("TOWN: {LINE ;}", HEAD + ";", 1, HEAD.length());
        faulty("TOWN: {LINE ;}", HEAD + "pig room 5 slot 3 pig", 1, HEAD.length() + 18);
        String[] words = {"LINE: town nights N law N quiet N odds N", "pig room N slot N", "hope size N loud N worth N",
            "drop H in P at N", "thief at N from P fingers N"};
        for (int kind = 0; kind < words.length; kind++) {
            wordByWord(words[kind], kind == 0 ? "" : HEAD + PIG + PIG + HOPE + HOPE, kind);
        }
        faulty("town is the first LINE and no other", PIG + HEAD, 1, 0);
        faulty("town is the first LINE and no other", HEAD + HEAD, 1, HEAD.length());
        faulty("town is the first LINE and no other", HEAD + PIG + HEAD, 1, (HEAD + PIG).length());
        fine("town is the first LINE and no other", HEAD, 1);
    }

    /** Each word of a line must be that one, each number be there; and no more stands ahead of the sign. */
    private static void wordByWord(String line, String ahead, int kind) {
        String[] parts = line.replace("LINE: ", "").split(" ");
        StringBuilder text = new StringBuilder(ahead);
        for (int i = 0; i < parts.length; i++) {
            boolean number = parts[i].length() == 1;
            if (i > 0) {
                faulty(line, text + (number ? "room" : "7"), 1, text.length());
                faulty(line, text + ";", 1, text.length());
                faulty(line, text.toString(), 1, text.length());
                faulty(line, text + (number ? "" : parts[i] + "s"), 1, text.length());
                faulty(line, text + (number ? "" : parts[i].substring(1)), 1, text.length());
                faulty(line, text + (number ? "x" : "x" + parts[i].substring(1)), 1, text.length());
                faulty(line, text + (number ? "x" : parts[i].substring(0, parts[i].length() - 1) + "x"), 1,
                    text.length());
            }
            text.append(number ? "1" : parts[i]).append(' ');
        }
        fine(line, text + ";", kind == 0 ? 1 : 6);
        faulty(line, text + "1;", 1, text.length());
        faulty(line, text + "room;", 1, text.length());
        faulty(line, ahead + "x" + parts[0].substring(1), 1, ahead.length());
        faulty(line, ahead + parts[0].substring(0, parts[0].length() - 1) + "x", 1, ahead.length());
    }

    private static void bounds() {
        Doc.at("I");
        bound("nights 1 .. 20", "town nights ", " law 0 quiet 0 odds 0;", 1, 20);
        bound("law 0 .. 3", "town nights 1 law ", " quiet 0 odds 0;", 0, 3);
        bound("quiet 0 .. 9", "town nights 1 law 0 quiet ", " odds 0;", 0, 9);
        bound("odds 0 .. 10", "town nights 1 law 0 quiet 0 odds ", ";", 0, 10);
        bound("pig: room 1 .. 60", HEAD + "pig room ", " slot 1;", 1, 60);
        bound("slot 1 .. 9", HEAD + "pig room 1 slot ", ";", 1, 9);
        bound("hope: size 1 .. 9", HEAD + "hope size ", " loud 0 worth 0;", 1, 9);
        bound("loud 0 .. 9", HEAD + "hope size 1 loud ", " worth 0;", 0, 9);
        bound("worth 0 .. 80", HEAD + "hope size 1 loud 0 worth ", ";", 0, 80);
        bound("a HOPE and a PIG told ahead, at 0 .. 19", HEAD + PIG + HOPE + "drop 0 in 0 at ", ";", 0, 19);
        bound("thief: at 0 .. 19", HEAD + PIG + "thief at ", " from 0 fingers 1;", 0, 19);
        bound("fingers 1 .. 9", HEAD + PIG + "thief at 0 from 0 fingers ", ";", 1, 9);
    }

    private static void bound(String words, String ahead, String behind, int least, int greatest) {
        int lines = (ahead + behind).split(";").length;
        fine(words, ahead + least + behind, lines);
        fine(words, ahead + greatest + behind, lines);
        faulty(words, ahead + (greatest + 1) + behind, 2, ahead.length());
        // Below 0 there is no number: the sign is no token.
        if (least > 0) {
            faulty(words, ahead + (least - 1) + behind, 2, ahead.length());
        } else {
            faulty(words, ahead + (least - 1) + behind, 1, ahead.length());
        }
    }

    private static void toldAhead() {
        Doc.at("I");
        String two = HEAD + PIG + PIG + HOPE + HOPE + HOPE;
        fine("drop: a HOPE and a PIG told ahead", two + "drop 2 in 1 at 0;", 7);
        faulty("drop: a HOPE and a PIG told ahead", two + "drop 3 in 1 at 0;", 2, two.length() + 5);
        faulty("drop: a HOPE and a PIG told ahead", two + "drop 2 in 2 at 0;", 2, two.length() + 10);
        faulty("drop: a HOPE and a PIG told ahead", HEAD + PIG + DROP + HOPE, 2, (HEAD + PIG).length() + 5);
        faulty("drop: a HOPE and a PIG told ahead", HEAD + HOPE + DROP + PIG, 2, (HEAD + HOPE).length() + 10);
        fine("a PIG told ahead, fingers", two + "thief at 0 from 1 fingers 1;", 7);
        faulty("a PIG told ahead, fingers", two + "thief at 0 from 2 fingers 1;", 2, two.length() + 16);
        faulty("a PIG told ahead, fingers", HEAD + THIEF + PIG, 2, HEAD.length() + 16);
    }

    private static void numbers() {
        Doc.at("I");
        int[] nights = {1, 2, 20};
        for (int many : nights) {
            HopeBank bank = Check.bankOf(Tell.town(many, 0, 0, 0));
            Doc.edges("NIGHTS 0 .. nights less 1", new int[] {bank.all(-1), bank.all(0), bank.all(many - 1),
                bank.all(many)}, -2, 0, 0, -2);
        }
        HopeBank full = Check.bankOf(FULL);
        Doc.edges("PIGS 0 .. 4", new int[] {full.pig(3, 0), full.pig(4, 0), full.pig(5, 0)}, 5, 60, -2);
        Doc.edges("HOPES 0 .. 7", new int[] {full.hope(6, 2), full.hope(7, 2), full.hope(8, 2)}, 1, 80, -2);
        Doc.edges("DROPS 0 .. 9", new int[] {full.drop(8, 2), full.drop(9, 2), full.drop(10, 2)}, 0, 19, -2);
        Doc.edges("THIEVES 0 .. 5", new int[] {full.thief(4, 2), full.thief(5, 2), full.thief(6, 2)}, 1, 9, -2);
        HopeBank mixed = Check.bankOf(HEAD + Tell.hope(1, 0, 0) + Tell.pig(7, 1) + Tell.hope(2, 0, 0)
            + Tell.thief(3, 0, 1) + Tell.pig(8, 1) + Tell.drop(1, 1, 2) + Tell.hope(3, 0, 0));
        Doc.edges("are numbered as they stand", new int[] {mixed.pig(0, 0), mixed.pig(1, 0), mixed.hope(0, 0),
            mixed.hope(1, 0), mixed.hope(2, 0), mixed.drop(0, 2), mixed.thief(0, 0)}, 7, 8, 1, 2, 3, 2, 3);
    }

    private static void tokens() {
        Doc.at("TOKENS");
        fine("blanks (32, 10) aside", " \n \n", 0);
        fine("blanks (32, 10) aside", "\n town\n\nnights  4\nlaw 1 quiet 2 odds 5 ;\n ", 1);
        fine("blanks (32, 10) aside", "town nights4law1quiet2odds5;pig room5slot3;", 2);
        char[] none = {9, 11, 12, 13, 0, 31, 33, 127, 128, 160, 255, '-', '.', ','};
        for (char c : none) {
            faulty("blanks (32, 10) aside", HEAD + c + PIG, 1, HEAD.length());
        }
        faulty("the longest", "townnights 4", 1, 0);
        faulty("the longest", "town nights 2 1 law", 1, 14);
        faulty("the longest", "town nights 21 law", 2, 12);
        fine("the longest", "town nights 0000000000000000000000000000000004 law 1 quiet 2 odds 5;", 1);
        char[] noLetters = {'a' - 1, 'z' + 1, 'A', 'Z', '@', '['};
        for (char c : noLetters) {
            faulty("words (a .. z)", "town" + c, 1, 4);
        }
        // A word to its end: with z or a behind it it is another one.
        faulty("words (a .. z)", "townz", 1, 0);
        faulty("words (a .. z)", "towna", 1, 0);
        char[] noDigits = {'0' - 1, '9' + 1};
        for (char c : noDigits) {
            faulty("numbers (digits)", "town nights 4" + c, 1, 13);
        }
        fine("numbers (digits)", Tell.town(19, 0, 9, 0), 1);
        faulty("the sign ;", "town nights 4 law 1 quiet 2 odds 5:", 1, 34);
        faulty("the sign ;", "town nights 4 law 1 quiet 2 odds 5<", 1, 34);
        faulty("the sign ;", HEAD + PIG + ";;", 1, (HEAD + PIG).length());
    }

    private static void faults() {
        Doc.at("FAULTS");
        faulty("the first by its place", "town nights 21 law 9 ?", 2, 12);
        faulty("the first by its place", "town ? nights 21", 1, 5);
        faulty("the first by its place", HEAD + PIG.repeat(7) + "?", 3, (HEAD + PIG.repeat(5)).length());
        faulty("a TOKEN's first byte", "  \n nonsense", 1, 4);
        faulty("a TOKEN's first byte", "town nights   2100", 2, 14);
        faulty("the end's", "town", 1, 4);
        faulty("the end's", "town \n ", 1, 7);
        faulty("the end's", HEAD + " ".repeat(900 - HEAD.length() - 3) + "pig", 1, 900);
        // A sixth pig's word where no word of its kind can stand is both 1 and 3.
        String five = HEAD + PIG.repeat(5);
        faulty("of one place the least", five + "hope pig", 1, five.length() + 5);
        faulty("of one place the least", five + HOPE.repeat(8) + "drop hope", 1, (five + HOPE.repeat(8)).length() + 5);
        faulty("1 a TOKEN that is none", "?", 1, 0);
        faulty("1 a TOKEN that is none", HEAD + PIG + "#", 1, (HEAD + PIG).length());
        faulty("or can't stand there", HEAD + "7", 1, HEAD.length());
        faulty("or can't stand there", HEAD + "pig 99", 1, HEAD.length() + 4);
        faulty("or can't stand there", HEAD + "cat", 1, HEAD.length());
        faulty("town behind the first LINE", HEAD + "town", 1, HEAD.length());
        faulty("town behind the first LINE", "town town", 1, 5);
        faulty("another word ahead of it", "pig", 1, 0);
        faulty("another word ahead of it", "nights", 1, 0);
        String[] wide = {"21", "99", "100", "2147483647", "2147483648", "4294967297", "4294967300",
            "18446744073709551617"};
        for (String number : wide) {
            faulty("2 a number out of its bounds", "town nights " + number + " law", 2, 12);
        }
        faulty("2 a number out of its bounds", "town nights 0 law", 2, 12);
        faulty("2 a number out of its bounds", "town nights 000 law", 2, 12);
        tooMany("a 6th pig", HEAD, PIG, 5);
        tooMany("9th hope", HEAD, HOPE, 8);
        tooMany("11th drop", HEAD + PIG + HOPE, DROP, 10);
        tooMany("7th thief, at its word", HEAD + PIG, THIEF, 6);
    }

    private static void tooMany(String words, String ahead, String line, int most) {
        String full = ahead + line.repeat(most);
        fine(words, full, ahead.split(";").length + most);
        faulty(words, full + line, 3, full.length());
        faulty(words, full + " " + line.substring(0, line.indexOf(' ')), 3, full.length() + 1);
    }

    private static void newObject() {
        Doc.at(1);
        HopeBank bank = new HopeBank();
        Doc.edges("No TOWN", new int[] {bank.misses(), bank.silent(), bank.crowd(), bank.victims(), bank.known(),
            bank.loss(), bank.out(), bank.ward(), bank.packs(), bank.most(), bank.undo(), bank.anew(), bank.drawn(0, 0),
            bank.drawn(0, 1)}, -2, -2, -2, -2, -2, -2, -2, -2, -2, -2, -2, -2, -2, -2);
        Doc.edges("No TOWN", new int[] {bank.pig(0, 0), bank.hope(0, 0), bank.drop(0, 0), bank.thief(0, 0),
            bank.empties(0), bank.heavy(0), bank.all(0), bank.stolen(0), bank.got(0), bank.loudest(0), bank.loud(0),
            bank.gains(0), bank.tight(0), bank.falls(0), bank.heard(0), bank.takes(0), bank.full(0), bank.best(0),
            bank.needs(0)}, -2, -2, -2, -2, -2, -2, -2, -2, -2, -2, -2, -2, -2, -2, -2, -2, -2, -2, -2);
        Doc.edges("No TOWN", new int[] {bank.oldest(0, 0), bank.small(0, 0), bank.rich(0, 0), bank.within(0, 0),
            bank.where(0, 0), bank.weight(0, 0), bank.left(0, 0), bank.rattle(0, 0), bank.value(0, 0), bank.may(0, 0),
            bank.packed(0), bank.unheard(0), bank.order(0, 0), bank.rows(0), bank.tilts(0, 0), bank.surely(0, 0),
            bank.never(0, 0), bank.ask(0, 0), bank.leaves(0, 0)},
            -2, -2, -2, -2, -2, -2, -2, -2, -2, -2, -2, -2, -2, -2, -2, -2, -2, -2, -2);
        Doc.edges("No TOWN", new int[] {bank.lighter(0, 0, 0), bank.taken(0, 0, 0), bank.rests(0, 1),
            bank.gets(0, 1, 0, 0), bank.chance(0, 0, 0), bank.mean(0, 0, 0), bank.drops(0, 0, 0), bank.breaks(0, 0),
            bank.luck(0, 1, 0), bank.rate(0, 0)}, -2, -2, -2, -1000, -2, -2, -2, -2, -2, -2);
        for (int what = 0; what <= 11; what++) {
            Doc.edge("No TOWN", bank.count(what), 0);
        }
    }

    private static void feed() {
        Doc.at(2);
        int town = 't' << 24 | 'o' << 16 | 'w' << 8 | 'n';
        int nights = 'n' << 24 | 'i' << 16 | 'g' << 8 | 'h';
        HopeBank bank = new HopeBank();
        Doc.edge("Twenty bytes come behind the TAPE",
            bank.feed(town, 0x20202020, nights, 0x74732039, 0x39202020), 20);
        Doc.edge("how many it has", bank.feed(0, 0, 0, 0, 0), 40);
        // "town    nights 99   ": four of each number, the highest first, and the numbers in their order.
        Doc.edges("four of each number, the highest first",
            new int[] {bank.town(), bank.fault(0), bank.fault(1)}, -4, 2, 15);
        HopeBank other = new HopeBank();
        other.feed(0x20202020, 0x20202020, 0x20202020, 0x20202020, 0x20202020);
        Doc.edge("how many it has", other.feed(0x20202020, 0x20202020, 0x20202020, 0x20202020, 0x202020FF), 40);
        Doc.edge("how many it has", other.feed(-1, -1, -1, -1, -1), 60);
        Doc.edges("four of each number, the highest first",
            new int[] {other.town(), other.fault(0), other.fault(1)}, -4, 1, 39);
        tapeFull();
    }

    private static void tapeFull() {
        String words = "NONE, and none come, if it would have more than 900";
        HopeBank bank = new HopeBank();
        for (int i = 1; i <= 44; i++) {
            Doc.edge("how many it has", bank.feed(0x20202020, 0x20202020, 0x20202020, 0x20202020, 0x0A0A0A0A), 20 * i);
        }
        Doc.edge("how many it has", bank.feed(0x20202020, 0x20202020, 0x20202020, 0x20202020, 0x20202020), 900);
        Doc.edge(words, bank.feed(0, 0, 0, 0, 0), -1);
        Doc.edge(words, bank.count(10), 900);
        bank.end(881);
        Doc.edge(words, bank.feed(0, 0, 0, 0, 0), -1);
        Doc.edge(words, bank.count(10), 881);
        // None came: the blanks alone are read.
        Doc.edge(words, bank.town(), 0);
        HopeBank nearly = new HopeBank();
        Check.feed(nearly, " ".repeat(880));
        Doc.edge(words, nearly.feed(0, 0, 0, 0, 0), 900);
    }

    private static void end() {
        Doc.at(3);
        HopeBank bank = new HopeBank();
        String none = "NONE, and nothing happens, if it has not so many";
        Doc.edge("n;", bank.end(0), 0);
        Doc.edge(none, bank.end(1), -1);
        Check.feed(bank, HEAD + "?????");
        int length = HEAD.length() + 5;
        Doc.edge("n;", bank.end(length), length);
        Doc.edge(none, bank.end(length + 1), -1);
        Doc.edge(none, bank.end(Integer.MAX_VALUE), -1);
        Doc.edge("or n is below 0", bank.end(-1), -1);
        Doc.edge("or n is below 0", bank.end(Integer.MIN_VALUE), -1);
        Doc.edge("and nothing happens", bank.count(10), length);
        Doc.edge("The TAPE has its first n bytes alone", bank.end(HEAD.length()), HEAD.length());
        Doc.edge("The TAPE has its first n bytes alone", bank.count(10), HEAD.length());
        Doc.edge(none, bank.end(HEAD.length() + 1), -1);
        Doc.edge("The TAPE has its first n bytes alone", bank.town(), 1);
        Check.feed(bank, "???");
        Doc.edge("n;", bank.end(0), 0);
        Doc.edge("The TAPE has its first n bytes alone", bank.town(), 0);
        // What was cut away is not there again, when others come behind the end.
        Check.feed(bank, "town nights 4 law 1 quiet 9?");
        bank.end(26);
        Check.feed(bank, "2 odds 5;");
        Doc.edge("The TAPE has its first n bytes alone", bank.town(), 1);
        Doc.edge("The TAPE has its first n bytes alone", bank.count(2), 2);
    }

    private static void town() {
        Doc.at(4);
        HopeBank bank = Check.bankOf(HEAD + PIG + HOPE + DROP + THIEF);
        Doc.edge("The TAPE (empty then) is the TOWN", bank.count(10), 0);
        Doc.edge("The TAPE (empty then) is the TOWN", bank.pig(0, 0), 5);
        bank.drops(0, 0, 0);
        bank.image(0);
        Check.feed(bank, Tell.town(7, 3, 9, 10) + Tell.pig(60, 9) + Tell.pig(1, 1));
        Doc.edge("how many LINES", bank.town(), 3);
        Doc.edges("(in place of another)", new int[] {bank.count(0), bank.count(1), bank.count(2), bank.count(3),
            bank.pig(0, 0), bank.pig(1, 1), bank.hope(0, 0), bank.drop(0, 0), bank.thief(0, 0), bank.count(9)},
            7, 3, 9, 10, 60, 1, -2, -2, -2, 3);
        Doc.edge("nothing done", bank.count(8), 0);
        Doc.edge("nothing done", bank.undo(), -5);
        Doc.edge("how many LINES", read(FULL)[0], 30);
        Doc.edge("0: there is none then", bank.town(), 0);
        Doc.edges("0: there is none then", new int[] {bank.pig(0, 0), bank.misses(), bank.anew(), bank.all(0),
            bank.count(0), bank.count(4), bank.count(9)}, -2, -2, -2, -2, 0, 0, 0);
        Check.feed(bank, " \n ");
        Doc.edge("0: there is none then", bank.town(), 0);
        Doc.edge("(empty then)", bank.count(10), 0);
        // The image is not touched by all that.
        Doc.edge("is the TOWN", bank.back(0), 0);
        Doc.edge("is the TOWN", bank.count(8), 1);
    }

    private static void townFaulty() {
        Doc.at(4);
        HopeBank bank = Check.bankOf(HEAD + PIG + HOPE + DROP);
        bank.breaks(0, 2);
        bank.row(1, 0, 2);
        String[] texts = {"?", HEAD + HEAD, Tell.town(21, 0, 0, 0), HEAD + PIG.repeat(6), HEAD + HOPE.repeat(9) + PIG};
        for (String text : texts) {
            bank.end(0);
            Check.feed(bank, text);
            Doc.edge("-4: a FAULT", bank.town(), -4);
            Doc.edges("(all stays)", new int[] {bank.count(0), bank.count(4), bank.count(5), bank.count(6),
                bank.count(8), bank.count(9), bank.count(11), bank.where(0, 1), bank.where(0, 2)},
                4, 1, 1, 1, 1, 4, 1, 0, -12);
            Doc.edge("(all stays)", bank.count(10), text.length());
            Doc.edge("-4: a FAULT", bank.town(), -4);
        }
        HopeBank none = new HopeBank();
        Check.feed(none, HEAD + "?");
        Doc.edge("-4: a FAULT", none.town(), -4);
        Doc.edge("(all stays)", none.count(9), 0);
        Doc.edge("(all stays)", none.misses(), -2);
        none.end(HEAD.length());
        Doc.edge("(all stays)", none.town(), 1);
    }

    private static void fault() {
        Doc.at(5);
        HopeBank bank = new HopeBank();
        Doc.edge("0 without", bank.fault(0), 0);
        Doc.edge("and ahead of any (what 1)", bank.fault(1), -1);
        Doc.edge("NONE for another what", bank.fault(2), -1);
        Doc.edge("NONE for another what", bank.fault(-1), -1);
        Check.feed(bank, "  ?");
        bank.town();
        Doc.edge("what 0: its FAULT", bank.fault(0), 1);
        Doc.edge("1: its place", bank.fault(1), 2);
        Doc.edge("NONE for another what", bank.fault(2), -1);
        Doc.edge("NONE for another what", bank.fault(Integer.MIN_VALUE), -1);
        bank.end(0);
        Doc.edge("Of the latest town()", bank.fault(1), 2);
        Check.feed(bank, "town nights 77");
        Doc.edge("Of the latest town()", bank.fault(0), 1);
        bank.town();
        Doc.edge("Of the latest town()", bank.fault(0), 2);
        Doc.edge("Of the latest town()", bank.fault(1), 12);
        bank.end(0);
        bank.town();
        Doc.edge("0 without", bank.fault(0), 0);
        Doc.edge("(NONE without)", bank.fault(1), -1);
        HopeBank full = new HopeBank();
        Check.feed(full, HEAD + PIG.repeat(6));
        full.town();
        Doc.edge("what 0: its FAULT", full.fault(0), 3);
    }

    private static void told() {
        HopeBank bank = Check.bankOf(HEAD + Tell.pig(60, 9) + Tell.pig(1, 2) + Tell.hope(9, 8, 80) + Tell.hope(1, 0, 0)
            + Tell.drop(1, 0, 19) + Tell.drop(0, 1, 0) + Tell.thief(19, 1, 9) + Tell.thief(0, 0, 1));
        Doc.at(6);
        table("Of a PIG, what 0: room, 1: slot", bank::pig, new int[][] {{60, 9}, {1, 2}});
        Doc.at(7);
        table("Of a HOPE, what 0: size, 1: loud, 2: worth", bank::hope, new int[][] {{9, 8, 80}, {1, 0, 0}});
        Doc.at(8);
        table("Of a DROP as told, what 0: its HOPE, 1: its PIG, 2: its NIGHT", bank::drop,
            new int[][] {{1, 0, 19}, {0, 1, 0}});
        // An act is no drop told.
        bank.drops(0, 0, 0);
        Doc.edge("Of a DROP as told", bank.drop(2, 0), -2);
        Doc.at(9);
        table("Of a THIEF, what 0: his NIGHT, 1: the PIG, 2: fingers", bank::thief,
            new int[][] {{19, 1, 9}, {0, 0, 1}});
    }

    private static void table(String words, Wrong.Two call, int[][] rows) {
        for (int i = 0; i < rows.length; i++) {
            for (int k = 0; k < rows[i].length; k++) {
                Doc.edge(words, call.of(i, k), rows[i][k]);
            }
        }
        Wrong.two("-2: there are none such", call, rows.length, rows[0].length);
    }

    private static void count() {
        Doc.at(67);
        HopeBank bank = Check.bankOf(Tell.town(20, 3, 9, 10) + Tell.pig(9, 9).repeat(5) + HOPE.repeat(8)
            + DROP.repeat(10) + THIEF.repeat(6));
        String[] words = {"0 nights", "1 LAW", "2 quiet", "3 odds", "4 PIGS", "5 HOPES", "6 DROPS", "7 THIEVES",
            "8 acts", "9 LINES", "10 bytes of the TAPE", "11 SLOTS that have a row"};
        int[] most = {20, 3, 9, 10, 5, 8, 10, 6, 30, 30, 900, 4};
        for (int i = 0; i < 31; i++) {
            bank.breaks(4, 19);
        }
        for (int slot = 0; slot < 4; slot++) {
            Doc.edge(words[11], bank.count(11), slot);
            bank.row(slot, slot, 0);
        }
        bank.row(3, 0, 60);
        Check.feed(bank, " ".repeat(900));
        for (int what = 0; what < most.length; what++) {
            Doc.edge(words[what], bank.count(what), most[what]);
        }
        Doc.edges("NONE for others", new int[] {bank.count(12), bank.count(-1), bank.count(Integer.MAX_VALUE),
            bank.count(Integer.MIN_VALUE)}, -1, -1, -1, -1);
        Check.due("67: no town", new HopeBank().count(12), -1);
    }
}
