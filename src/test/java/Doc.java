import java.io.IOException;
import java.nio.file.Files;
import java.nio.file.Path;
import java.util.Map;
import java.util.TreeMap;
import java.util.regex.Matcher;
import java.util.regex.Pattern;

/**
 * The document by its sections. An edge is named by words of its section, so that a test says which sentence it is
 * for; at the end each clause of each section must have been named by one.
 */
final class Doc {
    private static final Map<String, String> SECTIONS = new TreeMap<>();
    private static final Map<String, boolean[]> NAMED = new TreeMap<>();
    private static String section = "";

    private Doc() {
    }

    static void open() throws IOException {
        String text = Files.readString(Path.of("../shared/DOC.md"));
        sections(text, "(?m)^(An object) ([^;]*);");
        sections(text, "(?m)^(I|II|III|IV|V|VI|VII|VIII|IX)\\. (.*)$");
        sections(text, "(?m)^  (?=(TOKENS|FAULTS|SLOTS))(.*)$");
        sections(text, "(?m)^## Promise (\\d+): .*\\n\\n`[^`]*`: (.*)$");
        Check.due("sections of the document", SECTIONS.size(), 1 + 9 + 3 + 72);
    }

    private static void sections(String text, String pattern) {
        Matcher matcher = Pattern.compile(pattern).matcher(text);
        while (matcher.find()) {
            SECTIONS.put(matcher.group(1), matcher.group(2));
            NAMED.put(matcher.group(1), new boolean[matcher.group(2).length()]);
        }
    }

    static void at(String name) {
        section = name;
        Check.due("there is a section " + name, SECTIONS.containsKey(name) ? 1 : 0, 1);
    }

    static void at(int promise) {
        at(Integer.toString(promise));
    }

    /** What a call answers by some words of the section. */
    static void edge(String words, long got, long want) {
        int start = SECTIONS.getOrDefault(section, "").indexOf(words);
        if (start < 0) {
            Check.due(section + " has the words '" + words + "'", 0, 1);
            return;
        }
        java.util.Arrays.fill(NAMED.get(section), start, start + words.length(), true);
        Check.due(section + " '" + words + "'", got, want);
    }

    /** Several answers by the same words. */
    static void edges(String words, int[] got, int... want) {
        Check.due(section + ": so many answers by '" + words + "'", got.length, want.length);
        for (int i = 0; i < Math.min(got.length, want.length); i++) {
            edge(words, got[i], want[i]);
        }
    }

    /** A clause ends at a full stop, a colon or a semicolon; two points in a row tell bounds. */
    static void close() {
        for (Map.Entry<String, String> entry : SECTIONS.entrySet()) {
            Matcher matcher = Pattern.compile("(?:[^.:;]|\\.\\.|[.:;](?! |$))+").matcher(entry.getValue());
            while (matcher.find()) {
                String clause = matcher.group();
                if (Pattern.compile("[A-Za-z]").matcher(clause).find()) {
                    Check.due(entry.getKey() + ": edges named by the clause '" + clause.trim() + "'",
                        isNamed(NAMED.get(entry.getKey()), matcher.start(), matcher.end()) ? 1 : 0, 1);
                }
            }
        }
    }

    private static boolean isNamed(boolean[] named, int from, int to) {
        int letters = 0;
        for (int i = from; i < to; i++) {
            letters += named[i] ? 1 : 0;
        }
        return letters * 2 >= to - from;
    }
}
