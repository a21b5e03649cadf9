/** What the tests share: answers that are due, and texts fed to a bank. */
final class Check {
    private static int right = 0;
    private static int wrong = 0;

    private Check() {
    }

    static void due(String call, long got, long want) {
        if (got == want) {
            right++;
            return;
        }
        wrong++;
        if (wrong <= 40) {
            System.out.println(call + " answered " + got + ", due is " + want);
        }
    }

    /** Puts a text behind the tape: twenty bytes a call, the rest of the last ones cut away. */
    static void feed(HopeBank bank, String text) {
        int length = bank.count(10) + text.length();
        for (int i = 0; i < text.length(); i += 20) {
            bank.feed(four(text, i), four(text, i + 4), four(text, i + 8), four(text, i + 12), four(text, i + 16));
        }
        bank.end(length);
    }

    private static int four(String text, int from) {
        int number = 0;
        for (int i = from; i < from + 4; i++) {
            number = number << 8 | (i < text.length() ? text.charAt(i) & 255 : 0);
        }
        return number;
    }

    static HopeBank bankOf(String text) {
        HopeBank bank = new HopeBank();
        feed(bank, text);
        int lines = bank.town();
        if (lines <= 0) {
            due("town() of " + text, lines, 1);
        }
        return bank;
    }

    static void close() {
        System.out.println(right + " answers as due, " + wrong + " not");
        if (wrong != 0) {
            System.exit(1);
        }
    }
}
