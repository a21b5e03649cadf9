import java.util.ArrayList;
import java.util.Arrays;
import java.util.List;
import java.util.Random;
import java.util.TreeMap;
import java.util.regex.Matcher;
import java.util.regex.Pattern;

/**
 * Random towns and calls, compared with a plain model: it goes night by night and tries every packing, row, set and
 * company of thieves. The numbers are drawn from fixed seeds, so each run is the same.
 */
public final class ModelTest {
    /** A course of nights, written down at the end of each. */
    private static final class Course {
        int[][] place;
        final int[] fell = new int[8];
        final int[] heard = new int[8];
        final int[] takes = new int[6];
        final List<Integer> answers = new ArrayList<>();
        int went;
        int probe;
    }

    /** What differs from what is: thieves who stay away, no breaking, a room, a drop besides. */
    private static final class Change {
        int away = 0;
        boolean whole = false;
        int pig = -1;
        int room = 0;
        int[] besides = null;
    }

    private static final class Model {
        boolean stands;
        int nights;
        int law;
        int quiet;
        int odds;
        int lines;
        List<int[]> pigs = new ArrayList<>();
        List<int[]> hopes = new ArrayList<>();
        List<int[]> drops = new ArrayList<>();
        List<int[]> thieves = new ArrayList<>();
        List<int[]> acts = new ArrayList<>();

        Model copy() {
            Model m = new Model();
            m.stands = stands;
            m.nights = nights;
            m.law = law;
            m.quiet = quiet;
            m.odds = odds;
            m.lines = lines;
            m.pigs = deep(pigs);
            m.hopes = deep(hopes);
            m.drops = deep(drops);
            m.thieves = deep(thieves);
            m.acts = deep(acts);
            return m;
        }

        private static List<int[]> deep(List<int[]> rows) {
            List<int[]> copies = new ArrayList<>();
            for (int[] row : rows) {
                copies.add(row.clone());
            }
            return copies;
        }

        int hearing(int loud, int among, int spareBehind) {
            if (law == 0) {
                return loud;
            }
            if (law == 1) {
                return loud > among ? loud - among : 0;
            }
            if (law == 2) {
                return among == 0 ? loud : loud >> 1;
            }
            return spareBehind == 0 ? 0 : loud;
        }

        Course course(Change change) {
            Course c = new Course();
            c.place = new int[nights][8];
            int[] now = new int[8];
            Arrays.fill(now, -10);
            Arrays.fill(c.fell, -1);
            Arrays.fill(c.heard, -1);
            Arrays.fill(c.takes, -1);
            for (int i = 0; i < acts.size(); i++) {
                c.answers.add(0);
            }
            boolean[] broken = new boolean[5];
            for (int n = 0; n < nights; n++) {
                for (int i = 0; i < drops.size(); i++) {
                    if (drops.get(i)[2] == n && fall(c, change, now, broken, drops.get(i))) {
                        c.went |= 1 << i;
                    }
                }
                for (int i = 0; i < acts.size(); i++) {
                    if (acts.get(i)[2] == n && acts.get(i)[0] >= 0 && fall(c, change, now, broken, acts.get(i))) {
                        c.answers.set(i, 1);
                    }
                }
                if (change.besides != null && change.besides[2] == n && fall(c, change, now, broken, change.besides)) {
                    c.probe = 1;
                }
                for (int t = 0; t < thieves.size(); t++) {
                    int[] thief = thieves.get(t);
                    if (thief[0] != n || (change.away >> t & 1) != 0 || broken[thief[1]]) {
                        continue;
                    }
                    for (int size = 1; size <= thief[2] && c.takes[t] < 0; size++) {
                        for (int h = 0; h < hopes.size() && c.takes[t] < 0; h++) {
                            if (now[h] == thief[1] && hopes.get(h)[0] == size) {
                                c.takes[t] = h;
                                now[h] = -11;
                            }
                        }
                    }
                }
                for (int i = 0; i < acts.size() && !change.whole; i++) {
                    int[] act = acts.get(i);
                    if (act[2] != n || act[0] >= 0 || broken[act[1]]) {
                        continue;
                    }
                    broken[act[1]] = true;
                    int bits = 0;
                    for (int h = 0; h < hopes.size(); h++) {
                        if (now[h] == act[1]) {
                            now[h] = -12;
                            bits |= 1 << h;
                        }
                    }
                    c.answers.set(i, bits);
                }
                c.place[n] = now.clone();
            }
            return c;
        }

        private boolean fall(Course c, Change change, int[] now, boolean[] broken, int[] drop) {
            int h = drop[0];
            int p = drop[1];
            int room = p == change.pig ? change.room : pigs.get(p)[0];
            int among = 0;
            for (int k = 0; k < hopes.size(); k++) {
                if (now[k] == p) {
                    room -= hopes.get(k)[0];
                    among++;
                }
            }
            int size = hopes.get(h)[0];
            if (now[h] != -10 || broken[p] || size > pigs.get(p)[1] || size > room) {
                return false;
            }
            now[h] = p;
            c.fell[h] = drop[2];
            c.heard[h] = hearing(hopes.get(h)[1], among, room - size);
            return true;
        }

        Course now() {
            return course(new Change());
        }

        int value(Course c, int pig, int night) {
            int sum = 0;
            for (int h = 0; h < hopes.size(); h++) {
                if (c.place[night][h] == pig) {
                    sum += hopeValue(c, h, night);
                }
            }
            return sum;
        }

        int hopeValue(Course c, int h, int night) {
            if (c.place[night][h] < 0) {
                return 0;
            }
            int value = hopes.get(h)[2];
            for (int n = 0; n < night; n++) {
                value += c.place[n][h] >= 0 ? 1 : 0;
            }
            return value;
        }

        int all(Course c, int night) {
            int sum = 0;
            for (int p = 0; p < pigs.size(); p++) {
                sum += value(c, p, night);
            }
            return sum;
        }

        int sum(Course c, int pig, int night, int what) {
            int sum = 0;
            for (int h = 0; h < hopes.size(); h++) {
                sum += c.place[night][h] == pig ? hopes.get(h)[what] : 0;
            }
            return sum;
        }

        int bits(Course c, int place, int night) {
            int bits = 0;
            for (int h = 0; h < hopes.size(); h++) {
                bits |= c.place[night][h] == place ? 1 << h : 0;
            }
            return bits;
        }

        int left(Course c, int pig, int night) {
            return pigs.get(pig)[0] - sum(c, pig, night, 0);
        }

        int rattle(Course c, int pig, int night) {
            return Math.min(sum(c, pig, night, 1), left(c, pig, night));
        }

        // Packing: every row, in order, with the first one of the greatest worth.
        int packs;
        int most;
        int[] packed;

        void pack() {
            packs = -1;
            most = 0;
            int[] row = new int[hopes.size()];
            int[] rooms = new int[pigs.size()];
            for (int p = 0; p < rooms.length; p++) {
                rooms[p] = pigs.get(p)[0];
            }
            packFrom(0, row, rooms, 0, 0);
        }

        private void packFrom(int h, int[] row, int[] rooms, int worth, int many) {
            if (h == hopes.size()) {
                most = Math.max(most, many);
                if (worth > packs) {
                    packs = worth;
                    packed = row.clone();
                }
                return;
            }
            row[h] = -1;
            packFrom(h + 1, row, rooms, worth, many);
            int size = hopes.get(h)[0];
            for (int p = 0; p < rooms.length; p++) {
                if (size <= pigs.get(p)[1] && size <= rooms[p]) {
                    row[h] = p;
                    rooms[p] -= size;
                    packFrom(h + 1, row, rooms, worth + hopes.get(h)[2], many + 1);
                    rooms[p] += size;
                }
            }
        }

        // Unheard: every row, in order, the first of the longest.
        List<Integer> longest;
        int rows;

        void hush(int pig) {
            longest = new ArrayList<>();
            rows = 0;
            hushFrom(pig, new ArrayList<>(), pigs.get(pig)[0]);
        }

        private void hushFrom(int pig, List<Integer> row, int room) {
            if (row.size() > longest.size()) {
                longest = new ArrayList<>(row);
                rows = 1;
            } else if (row.size() == longest.size()) {
                rows++;
            }
            for (int h = 0; h < hopes.size(); h++) {
                int size = hopes.get(h)[0];
                if (row.contains(h) || size > pigs.get(pig)[1] || size > room
                    || hearing(hopes.get(h)[1], row.size(), room - size) > quiet) {
                    continue;
                }
                row.add(h);
                hushFrom(pig, row, room - size);
                row.remove(row.size() - 1);
            }
        }

        List<Integer> tilted(long[] row, int pig) {
            List<Integer> sets = new ArrayList<>();
            for (int s = 0; s < 1 << hopes.size(); s++) {
                int weight = 0;
                boolean fits = true;
                for (int h = 0; h < hopes.size(); h++) {
                    if ((s >> h & 1) == 1) {
                        weight += hopes.get(h)[0];
                        fits &= hopes.get(h)[0] <= pigs.get(pig)[1];
                    }
                }
                fits &= weight <= pigs.get(pig)[0];
                for (int i = 0; i < row.length; i += 2) {
                    fits &= outBy(s, row[i]) == row[i + 1];
                }
                if (fits) {
                    sets.add(s);
                }
            }
            return sets;
        }

        int outBy(int set, long far) {
            int many = 0;
            for (int h = 0; h < hopes.size(); h++) {
                many += (set >> h & 1) == 1 && hopes.get(h)[0] <= far ? 1 : 0;
            }
            return many;
        }

        int comers(long seed) {
            java.math.BigInteger x = java.math.BigInteger.valueOf(seed);
            int bits = 0;
            for (int t = 0; t < thieves.size(); t++) {
                x = x.multiply(java.math.BigInteger.valueOf(1103515245)).add(java.math.BigInteger.valueOf(12345))
                    .mod(java.math.BigInteger.valueOf(2147483648L));
                bits |= x.intValue() / 65536 % 10 < odds ? 1 << t : 0;
            }
            return bits;
        }

        Course drawn(long seed) {
            Change change = new Change();
            change.away = ~comers(seed);
            return course(change);
        }
    }

    private static final Random RANDOM = new Random(20261117);
    private static HopeBank bank;
    private static Model model;
    private static String trail;
    private static int calls;
    private static final Model[] IMAGES = new Model[3];
    private static final long[][] ROWS = new long[4][];
    private static final int[] WIDTHS = new int[4];

    public static void main(String[] args) {
        for (int run = 0; run < 700; run++) {
            start(run);
            while (calls < 480) {
                int dice = RANDOM.nextInt(100);
                if (dice < 12) {
                    change();
                } else if (dice < 15) {
                    slots();
                } else {
                    question();
                }
            }
        }
        texts();
        Check.close();
    }

    private static int below(int n) {
        return RANDOM.nextInt(n);
    }

    /** Mostly one of so many, now and then one beside them. */
    private static int oneOf(int n) {
        return below(25) == 0 ? below(n + 2) - 1 : below(Math.max(1, n));
    }

    private static void due(String call, long got, long want) {
        calls++;
        Check.due(trail + " " + call, got, want);
    }

    private static void start(int run) {
        bank = new HopeBank();
        model = new Model();
        calls = 0;
        trail = "run " + run;
        Arrays.fill(IMAGES, null);
        Arrays.fill(ROWS, null);
        tell();
    }

    private static void tell() {
        Model m = new Model();
        String text = randomTown(m);
        Check.feed(bank, text);
        calls += text.length() / 20 + 3;
        due("town()", bank.town(), m.lines);
        model = m;
    }

    private static String randomTown(Model m) {
        StringBuilder text = new StringBuilder();
        m.stands = true;
        m.nights = 1 + below(below(3) == 0 ? 20 : 6);
        m.law = below(4);
        m.quiet = below(10);
        m.odds = below(11);
        text.append("town nights " + m.nights + " law " + m.law + " quiet " + m.quiet + " odds " + m.odds + ";");
        m.lines = 1;
        int lines = below(29);
        boolean narrow = below(2) == 0;
        for (int i = 0; i < lines && text.length() < 860; i++) {
            int kind = i < 2 ? i : below(4);
            if (kind == 0 && m.pigs.size() < (narrow ? 2 : 5)) {
                int[] pig = {1 + below(below(2) == 0 ? 60 : 15), 1 + below(9)};
                m.pigs.add(pig);
                text.append("pig room " + pig[0] + " slot " + pig[1] + ";");
            } else if (kind == 1 && m.hopes.size() < 8) {
                int[] hope = {1 + below(below(2) == 0 ? 9 : 4), below(10), below(4) == 0 ? 0 : below(81)};
                m.hopes.add(hope);
                text.append("hope size " + hope[0] + " loud " + hope[1] + " worth " + hope[2] + ";");
            } else if (kind == 2 && m.drops.size() < 10 && !m.hopes.isEmpty() && !m.pigs.isEmpty()) {
                int[] drop = {below(m.hopes.size()), below(m.pigs.size()), below(below(6) == 0 ? 20 : m.nights)};
                m.drops.add(drop);
                text.append("drop " + drop[0] + " in " + drop[1] + " at " + drop[2] + ";");
            } else if (kind == 3 && m.thieves.size() < 6 && !m.pigs.isEmpty()) {
                int[] thief = {below(below(6) == 0 ? 20 : m.nights), below(m.pigs.size()), 1 + below(9)};
                m.thieves.add(thief);
                text.append("thief at " + thief[0] + " from " + thief[1] + " fingers " + thief[2] + ";");
            } else {
                continue;
            }
            m.lines++;
        }
        return text.toString();
    }

    private static boolean isPig(int p) {
        return p >= 0 && p < model.pigs.size();
    }

    private static boolean isHope(int h) {
        return h >= 0 && h < model.hopes.size();
    }

    private static boolean isNight(int n) {
        return n >= 0 && n < model.nights;
    }

    private static void change() {
        int h = oneOf(model.hopes.size());
        int p = oneOf(model.pigs.size());
        int n = oneOf(model.nights);
        int k = oneOf(3);
        switch (below(14)) {
            case 0: case 1: case 2: case 3: act(h, p, n); break;
            case 4: case 5: act(-1, p, n); break;
            case 6: case 7:
                due("undo()", bank.undo(), !model.stands ? -2 : model.acts.isEmpty() ? -5 : model.acts.size() - 1);
                if (!model.acts.isEmpty()) {
                    model.acts.remove(model.acts.size() - 1);
                }
                break;
            case 8:
                due("anew()", bank.anew(), model.stands ? model.acts.size() : -2);
                model.acts.clear();
                break;
            case 9: case 10:
                rate(h, below(86) - 2);
                break;
            case 11:
                due("image(" + k + ")", bank.image(k), k >= 0 && k < 3 ? 0 : -2);
                if (k >= 0 && k < 3) {
                    IMAGES[k] = model.copy();
                }
                break;
            case 12:
                boolean none = k < 0 || k > 2;
                due("back(" + k + ")", bank.back(k), none ? -2 : IMAGES[k] == null ? -6 : 0);
                if (!none && IMAGES[k] != null) {
                    model = IMAGES[k].copy();
                }
                break;
            default:
                if (below(6) == 0) {
                    due("town()", bank.town(), 0);
                    model = new Model();
                } else if (below(2) == 0) {
                    tell();
                }
                break;
        }
    }

    private static void act(int h, int p, int n) {
        boolean breaks = h == -1 && below(2) == 0;
        boolean none = !isPig(p) || !isNight(n) || !breaks && !isHope(h);
        int got = breaks ? bank.breaks(p, n) : bank.drops(h, p, n);
        int want = none ? -2 : model.acts.size() == 30 ? -5 : 0;
        if (want == 0) {
            model.acts.add(new int[] {breaks ? -1 : h, p, n});
            want = model.now().answers.get(model.acts.size() - 1);
        }
        due((breaks ? "breaks(" : "drops(" + h + ", ") + p + ", " + n + ")", got, want);
    }

    private static void rate(int h, int n) {
        boolean none = !isHope(h) || n < 0 || n > 80;
        due("rate(" + h + ", " + n + ")", bank.rate(h, n), none ? -2 : model.acts.size() > 0 ? -5 : model.hopes.get(h)[2]);
        if (!none && model.acts.isEmpty()) {
            model.hopes.get(h)[2] = n;
        }
    }

    private static void slots() {
        int slot = oneOf(4);
        int to = oneOf(4);
        boolean isSlot = slot >= 0 && slot < 4;
        boolean isTo = to >= 0 && to < 4;
        switch (below(4)) {
            case 0:
                int width = oneOf(4);
                int n = below(10) == 0 ? below(70) - 5 : below(5);
                int want = !isSlot || width < 0 || width > 3 || n > 60 ? -2 : n < 0 ? -3 : 0;
                due("row", bank.row(slot, width, n), want);
                if (want == 0) {
                    ROWS[slot] = new long[n];
                    WIDTHS[slot] = width;
                }
                break;
            case 1: case 2:
                int length = isSlot && ROWS[slot] != null ? ROWS[slot].length : 0;
                for (int i = -1; i <= length; i++) {
                    long v = i % 2 == 0 ? 1 + below(9) : below(4);
                    v += below(3) == 0 ? (long) below(3) << 8 * (1 + below(7)) : 0;
                    due("write", bank.write(slot, i, v), !isSlot ? -2 : ROWS[slot] == null ? -6 : i < 0 || i >= length ? -7 : 0);
                    if (isSlot && i >= 0 && i < length) {
                        int bits = 64 - (8 << WIDTHS[slot]);
                        ROWS[slot][i] = v << bits >> bits;
                    }
                }
                break;
            default:
                int i = oneOf(4);
                int k = oneOf(4);
                int many = oneOf(4);
                int answer = !isSlot || !isTo ? -2 : ROWS[slot] == null || ROWS[to] == null ? -6
                    : WIDTHS[slot] != WIDTHS[to] ? -8
                    : i < 0 || k < 0 || many < 0 || i + many > ROWS[slot].length || k + many > ROWS[to].length ? -7 : 0;
                due("paste", bank.paste(slot, i, to, k, many), answer);
                if (answer == 0) {
                    long[] old = ROWS[slot].clone();
                    for (int m = 0; m < many; m++) {
                        ROWS[to][k + m] = old[i + m];
                    }
                }
                break;
        }
    }

    private static void question() {
        int h = oneOf(model.hopes.size());
        int p = oneOf(model.pigs.size());
        int n = oneOf(model.nights);
        switch (below(16)) {
            case 0: town(); break;
            case 1: case 2: byNight(n); break;
            case 3: case 4: byPigAndNight(p, n); break;
            case 5: case 6: byHope(h, n); break;
            case 7: byPig(p); break;
            case 8: whatIf(p, n); break;
            case 9: packing(); break;
            case 10: hush(p); break;
            case 11: tilts(oneOf(4), p); break;
            case 12: weights(p, n, below(4) == 0 ? below(64) - 1 : below(20)); break;
            case 13: game(p, oneOf(model.pigs.size())); break;
            case 14: chances(h, p, n); break;
            default: years(h); break;
        }
    }

    private static void town() {
        Course c = model.now();
        int misses = 0;
        for (int i = 0; i < model.drops.size(); i++) {
            misses |= (c.went >> i & 1) == 0 ? 1 << i : 0;
        }
        int silent = 0;
        int known = 0;
        int crowd = 0;
        int victims = 0;
        int loss = 0;
        for (int h = 0; h < model.hopes.size(); h++) {
            silent |= c.heard[h] == 0 ? 1 << h : 0;
            known |= c.heard[h] > model.quiet ? 1 << h : 0;
        }
        for (int n = 0; n < model.nights; n++) {
            for (int p = 0; p < model.pigs.size(); p++) {
                crowd = Math.max(crowd, Integer.bitCount(model.bits(c, p, n)));
            }
        }
        for (int t = 0; t < model.thieves.size(); t++) {
            if (c.takes[t] >= 0) {
                victims |= 1 << model.thieves.get(t)[1];
                loss += model.hopes.get(c.takes[t])[2];
            }
        }
        boolean none = !model.stands;
        due("misses()", bank.misses(), none ? -2 : misses);
        due("silent()", bank.silent(), none ? -2 : silent);
        due("known()", bank.known(), none ? -2 : known);
        due("crowd()", bank.crowd(), none ? -2 : crowd);
        due("victims()", bank.victims(), none ? -2 : victims);
        due("loss()", bank.loss(), none ? -2 : loss);
        due("out()", bank.out(), none ? -2 : model.bits(c, -10, model.nights - 1));
        int t = oneOf(model.thieves.size());
        due("takes(" + t + ")", bank.takes(t), t < 0 || t >= model.thieves.size() ? -2 : c.takes[t]);
        int[] counts = {model.nights, model.law, model.quiet, model.odds, model.pigs.size(), model.hopes.size(),
            model.drops.size(), model.thieves.size(), model.acts.size(), model.lines, 0};
        int what = below(counts.length);
        due("count(" + what + ")", bank.count(what), counts[what]);
        int rows = 0;
        for (long[] row : ROWS) {
            rows += row == null ? 0 : 1;
        }
        due("count(11)", bank.count(11), rows);
    }

    private static void byNight(int n) {
        Course c = model.now();
        boolean none = !isNight(n);
        int empties = 0;
        int heavy = -1;
        int loudest = -1;
        for (int p = 0; p < model.pigs.size() && !none; p++) {
            empties |= model.bits(c, p, n) == 0 ? 1 << p : 0;
            if (model.sum(c, p, n, 0) > (heavy < 0 ? 0 : model.sum(c, heavy, n, 0))) {
                heavy = p;
            }
            if (model.rattle(c, p, n) > (loudest < 0 ? 0 : model.rattle(c, loudest, n))) {
                loudest = p;
            }
        }
        due("empties(" + n + ")", bank.empties(n), none ? -2 : empties);
        due("heavy(" + n + ")", bank.heavy(n), none ? -2 : heavy);
        due("loudest(" + n + ")", bank.loudest(n), none ? -2 : loudest);
        due("all(" + n + ")", bank.all(n), none ? -2 : model.all(c, n));
        due("stolen(" + n + ")", bank.stolen(n), none ? -2 : model.bits(c, -11, n));
        due("got(" + n + ")", bank.got(n), none ? -2 : model.sum(c, -12, n, 2));
    }

    private static void byPigAndNight(int p, int n) {
        Course c = model.now();
        boolean none = !isPig(p) || !isNight(n);
        int oldest = -1;
        int small = -1;
        for (int h = 0; h < model.hopes.size() && !none; h++) {
            if (c.place[n][h] == p) {
                oldest = oldest < 0 || c.fell[h] < c.fell[oldest] ? h : oldest;
                small = small < 0 || model.hopes.get(h)[0] < model.hopes.get(small)[0] ? h : small;
            }
        }
        String at = "(" + p + ", " + n + ")";
        due("oldest" + at, bank.oldest(p, n), none ? -2 : oldest);
        due("small" + at, bank.small(p, n), none ? -2 : small);
        due("within" + at, bank.within(p, n), none ? -2 : model.bits(c, p, n));
        due("weight" + at, bank.weight(p, n), none ? -2 : model.sum(c, p, n, 0));
        due("left" + at, bank.left(p, n), none ? -2 : model.left(c, p, n));
        due("rattle" + at, bank.rattle(p, n), none ? -2 : model.rattle(c, p, n));
        due("value" + at, bank.value(p, n), none ? -2 : model.value(c, p, n));
    }

    private static void byHope(int h, int n) {
        Course c = model.now();
        boolean none = !isHope(h) || !isNight(n);
        due("rich(" + h + ", " + n + ")", bank.rich(h, n), none ? -2 : model.hopeValue(c, h, n));
        due("where(" + h + ", " + n + ")", bank.where(h, n), none ? -2 : c.place[n][h]);
        due("falls(" + h + ")", bank.falls(h), !isHope(h) ? -2 : c.fell[h]);
        due("heard(" + h + ")", bank.heard(h), !isHope(h) ? -2 : c.heard[h]);
    }

    private static int bestNight(Course c, int p) {
        int best = 0;
        for (int n = 1; n < model.nights; n++) {
            best = model.value(c, p, n) > model.value(c, p, best) ? n : best;
        }
        return best;
    }

    private static void byPig(int p) {
        Course c = model.now();
        int loud = -1;
        int tight = 1000;
        int full = -1;
        boolean none = !isPig(p);
        for (int h = 0; h < model.hopes.size() && !none; h++) {
            if (c.fell[h] >= 0 && c.place[c.fell[h]][h] == p) {
                loud = Math.max(loud, c.heard[h]);
            }
        }
        for (int n = model.nights - 1; n >= 0 && !none; n--) {
            tight = Math.min(tight, model.left(c, p, n));
            full = model.left(c, p, n) == 0 ? n : full;
        }
        int best = none ? 0 : bestNight(c, p);
        int greatest = none ? 0 : model.value(c, p, best);
        due("loud(" + p + ")", bank.loud(p), none ? -2 : loud);
        due("gains(" + p + ")", bank.gains(p), none ? -2 : greatest - model.value(c, p, model.nights - 1));
        due("tight(" + p + ")", bank.tight(p), none ? -2 : tight);
        due("full(" + p + ")", bank.full(p), none ? -2 : full);
        due("best(" + p + ")", bank.best(p), none ? -2 : greatest == 0 ? -1 : best);
    }

    private static void whatIf(int p, int n) {
        int may = 0;
        for (int h = 0; h < model.hopes.size() && isPig(p) && isNight(n); h++) {
            Change change = new Change();
            change.besides = new int[] {h, p, n};
            may |= model.course(change).probe << h;
        }
        due("may(" + p + ", " + n + ")", bank.may(p, n), !isPig(p) || !isNight(n) ? -2 : may);
        int needs = -1;
        for (int room = 60; room >= 1 && isPig(p); room--) {
            Change change = new Change();
            change.pig = p;
            change.room = room;
            int went = model.course(change).went;
            boolean each = true;
            for (int i = 0; i < model.drops.size(); i++) {
                each &= model.drops.get(i)[1] != p || (went >> i & 1) == 1;
            }
            needs = each ? room : needs;
        }
        due("needs(" + p + ")", bank.needs(p), isPig(p) ? needs : -2);
        int ward = -1;
        int greatest = model.stands ? model.all(model.now(), model.nights - 1) : 0;
        for (int t = 0; t < model.thieves.size(); t++) {
            Change change = new Change();
            change.away = 1 << t;
            int value = model.all(model.course(change), model.nights - 1);
            if (value > greatest) {
                ward = t;
                greatest = value;
            }
        }
        due("ward()", bank.ward(), model.stands ? ward : -2);
    }

    private static void packing() {
        if (model.hopes.size() > 6 && model.pigs.size() > 3 && below(20) != 0) {
            return;
        }
        model.pack();
        due("packs()", bank.packs(), model.stands ? model.packs : -2);
        due("most()", bank.most(), model.stands ? model.most : -2);
        for (int h = -1; h <= model.hopes.size(); h++) {
            due("packed(" + h + ")", bank.packed(h), isHope(h) ? model.packed[h] : -2);
        }
    }

    private static void hush(int p) {
        if (isPig(p)) {
            model.hush(p);
        }
        due("unheard(" + p + ")", bank.unheard(p), isPig(p) ? model.longest.size() : -2);
        due("rows(" + p + ")", bank.rows(p), isPig(p) ? model.rows : -2);
        for (int i = -1; i < 9; i++) {
            boolean there = isPig(p) && i >= 0 && i < model.longest.size();
            due("order(" + p + ", " + i + ")", bank.order(p, i), !isPig(p) ? -2 : there ? model.longest.get(i) : -1);
        }
    }

    private static int tiltRefusal(int slot, int p) {
        if (slot < 0 || slot > 3 || !isPig(p)) {
            return -2;
        }
        if (ROWS[slot] == null) {
            return -6;
        }
        if (ROWS[slot].length % 2 == 1) {
            return -2;
        }
        for (int i = 0; i < ROWS[slot].length; i += 2) {
            if (ROWS[slot][i] < 1 || ROWS[slot][i] > 9 || ROWS[slot][i + 1] < 0 || ROWS[slot][i + 1] > 8) {
                return -2;
            }
        }
        return 0;
    }

    private static void tilts(int slot, int p) {
        int refusal = tiltRefusal(slot, p);
        List<Integer> found = refusal == 0 ? model.tilted(ROWS[slot], p) : new ArrayList<>();
        int whole = (1 << model.hopes.size()) - 1;
        int each = whole;
        int none = whole;
        for (int s : found) {
            each &= s;
            none &= ~s;
        }
        int ask = -1;
        int fewest = found.size();
        for (int far = 1; far <= 9; far++) {
            TreeMap<Integer, Integer> parts = new TreeMap<>();
            for (int s : found) {
                parts.merge(model.outBy(s, far), 1, Integer::sum);
            }
            int worst = 0;
            for (int part : parts.values()) {
                worst = Math.max(worst, part);
            }
            if (worst < fewest) {
                ask = far;
                fewest = worst;
            }
        }
        String at = "(" + slot + ", " + p + ")";
        due("tilts" + at, bank.tilts(slot, p), refusal != 0 ? refusal : found.size());
        due("surely" + at, bank.surely(slot, p), refusal != 0 ? refusal : found.isEmpty() ? -1 : each);
        due("never" + at, bank.never(slot, p), refusal != 0 ? refusal : found.isEmpty() ? -1 : none);
        due("ask" + at, bank.ask(slot, p), refusal != 0 ? refusal : ask);
        due("leaves" + at, bank.leaves(slot, p), refusal != 0 ? refusal : fewest);
    }

    private static void weights(int p, int n, int weight) {
        boolean none = !isPig(p) || !isNight(n) || weight < 0 || weight > 60;
        int many = 0;
        int taken = -1;
        int held = none ? 0 : model.bits(model.now(), p, n);
        for (int s = 0; s < 256; s++) {
            int sum = 0;
            for (int h = 0; h < model.hopes.size(); h++) {
                sum += (s >> h & 1) * model.hopes.get(h)[0];
            }
            if ((s | held) != held || sum != weight) {
                continue;
            }
            many++;
            taken = taken < 0 || Integer.bitCount(s) < Integer.bitCount(taken) ? s : taken;
        }
        due("lighter(" + p + ", " + n + ", " + weight + ")", bank.lighter(p, n, weight), none ? -2 : many);
        due("taken(" + p + ", " + n + ", " + weight + ")", bank.taken(p, n, weight), none ? -2 : taken);
    }

    private static void game(int p, int q) {
        boolean none = !isPig(p) || !isPig(q) || p == q;
        int[][] first = new int[2][2];
        int[][] second = new int[2][2];
        if (!none) {
            Change change = new Change();
            change.whole = true;
            Course c = model.course(change);
            int last = model.nights - 1;
            int[] nightsOfP = {last, bestNight(c, p)};
            int[] nightsOfQ = {last, bestNight(c, q)};
            for (int x = 0; x < 2; x++) {
                for (int y = 0; y < 2; y++) {
                    int less = nightsOfP[x] == nightsOfQ[y] ? 9 : 0;
                    first[x][y] = model.value(c, p, nightsOfP[x]) - less;
                    second[x][y] = model.value(c, q, nightsOfQ[y]) - less;
                }
            }
        }
        int rests = 0;
        int[][] bit = {{1, 4}, {2, 8}};
        for (int x = 0; x < 2; x++) {
            for (int y = 0; y < 2; y++) {
                due("gets(" + p + ", " + q + ", " + x + ", " + y + ")", bank.gets(p, q, x, y), none ? -1000 : first[x][y]);
                rests += first[1 - x][y] > first[x][y] || second[x][1 - y] > second[x][y] ? 0 : bit[x][y];
            }
        }
        due("rests(" + p + ", " + q + ")", bank.rests(p, q), none ? -2 : rests);
    }

    private static void chances(int h, int p, int n) {
        long in = 0;
        long worth = 0;
        long total = 0;
        for (int away = 0; away < 1 << model.thieves.size() && isNight(n); away++) {
            long share = 1;
            for (int t = 0; t < model.thieves.size(); t++) {
                share *= (away >> t & 1) == 1 ? 10 - model.odds : model.odds;
            }
            Change change = new Change();
            change.away = away;
            Course c = model.course(change);
            total += share;
            in += isHope(h) && c.place[n][h] >= 0 ? share : 0;
            worth += isPig(p) ? share * model.value(c, p, n) : 0;
        }
        boolean noHope = !isHope(h) || !isNight(n);
        boolean noPig = !isPig(p) || !isNight(n);
        due("chance(" + h + ", " + n + ", 0)", bank.chance(h, n, 0), noHope ? -2 : lowest(in, total)[0]);
        due("chance(" + h + ", " + n + ", 1)", bank.chance(h, n, 1), noHope ? -2 : lowest(in, total)[1]);
        due("mean(" + p + ", " + n + ", 0)", bank.mean(p, n, 0), noPig ? -2 : lowest(worth, total)[0]);
        due("mean(" + p + ", " + n + ", 1)", bank.mean(p, n, 1), noPig ? -2 : lowest(worth, total)[1]);
    }

    private static long[] lowest(long above, long below) {
        long gcd = java.math.BigInteger.valueOf(above).gcd(java.math.BigInteger.valueOf(below)).longValue();
        return new long[] {above / gcd, below / gcd};
    }

    private static void years(int h) {
        int seed = below(3) == 0 ? below(2000000001) : below(1000);
        int n = below(23);
        due("drawn(" + seed + ", 0)", bank.drawn(seed, 0), model.stands ? model.comers(seed) : -2);
        due("drawn(" + seed + ", 1)", bank.drawn(seed, 1), model.stands ? model.all(model.drawn(seed), model.nights - 1) : -2);
        boolean none = !isHope(h) || n < 1 || n > 20;
        int luck = 0;
        for (int i = 0; i < n && !none; i++) {
            luck += model.drawn((long) seed + i).place[model.nights - 1][h] == -11 ? 1 : 0;
        }
        due("luck(" + seed + ", " + n + ", " + h + ")", bank.luck(seed, n, h), none ? -2 : luck);
    }

    // Texts with a fault or two: a reader of the model's own, over tokens found by a pattern.

    private static final Pattern TOKEN = Pattern.compile("[a-z]+|[0-9]+|;|(?s:.)");

    private static void texts() {
        String[] scraps = {"town", "pig", "hope", "drop", "thief", "in", "at", ";", "0", "1", "7", "10", "21", "99", "x",
            "A", "-", "\t", " ", "\n", "nights", "room", "fingers", "000003", "5000000000", "\u00e9", "pig room 3 slot 3;",
            "hope size 1 loud 1 worth 1;", "drop 0 in 0 at 0;", "thief at 0 from 0 fingers 1;"};
        for (int run = 0; run < 40000; run++) {
            StringBuilder text = new StringBuilder(randomTown(new Model()));
            for (int i = below(4); i > 0; i--) {
                int at = below(text.length() + 1);
                int to = Math.min(text.length(), at + (below(2) == 0 ? 0 : below(8)));
                text.replace(at, to, scraps[below(scraps.length)]);
            }
            if (below(5) == 0) {
                text.setLength(below(text.length() + 1));
            }
            if (text.length() > 880) {
                text.setLength(880);
            }
            check(text.toString());
        }
    }

    private static void check(String text) {
        List<String> tokens = new ArrayList<>();
        List<Integer> places = new ArrayList<>();
        Matcher matcher = TOKEN.matcher(text);
        while (matcher.find()) {
            if (!matcher.group().equals(" ") && !matcher.group().equals("\n")) {
                tokens.add(matcher.group());
                places.add(matcher.start());
            }
        }
        places.add(text.length());
        int[] answer = read(tokens);
        HopeBank reader = new HopeBank();
        Check.feed(reader, text);
        Check.due("town() of " + text, reader.town(), answer[0] != 0 ? -4 : answer[2]);
        Check.due("fault(0) of " + text, reader.fault(0), answer[0]);
        Check.due("fault(1) of " + text, reader.fault(1), answer[0] == 0 ? -1 : places.get(answer[1]));
        Check.due("count(10) of " + text, reader.count(10), answer[0] == 0 ? 0 : text.length());
    }

    /** The fault, its token's number, how many LINES. A pattern: words as they are, least-greatest for numbers. */
    private static int[] read(List<String> tokens) {
        int[] counts = new int[5];
        String[] words = {"town", "pig", "hope", "drop", "thief"};
        int[] limits = {1, 5, 8, 10, 6};
        int at = 0;
        int lines = 0;
        while (at < tokens.size()) {
            int kind = Arrays.asList(words).indexOf(tokens.get(at));
            if (kind < 0 || (kind == 0) != (lines == 0)) {
                return new int[] {1, at, 0};
            }
            if (counts[kind] == limits[kind]) {
                return new int[] {3, at, 0};
            }
            String[] patterns = {"nights 1-20 law 0-3 quiet 0-9 odds 0-10 ;", "room 1-60 slot 1-9 ;",
                "size 1-9 loud 0-9 worth 0-80 ;", "0-h in 0-p at 0-19 ;", "at 0-19 from 0-p fingers 1-9 ;"};
            at++;
            for (String part : patterns[kind].split(" ")) {
                String token = at < tokens.size() ? tokens.get(at) : "";
                if (part.contains("-")) {
                    if (!token.matches("[0-9]+")) {
                        return new int[] {1, at, 0};
                    }
                    String greatest = part.substring(part.indexOf('-') + 1);
                    int most = greatest.equals("h") ? counts[2] - 1 : greatest.equals("p") ? counts[1] - 1
                        : Integer.parseInt(greatest);
                    java.math.BigInteger number = new java.math.BigInteger(token);
                    if (number.compareTo(java.math.BigInteger.valueOf(part.charAt(0) - '0')) < 0
                        || number.compareTo(java.math.BigInteger.valueOf(most)) > 0) {
                        return new int[] {2, at, 0};
                    }
                } else if (!token.equals(part)) {
                    return new int[] {1, at, 0};
                }
                at++;
            }
            counts[kind]++;
            lines++;
        }
        return new int[] {0, 0, lines};
    }
}
