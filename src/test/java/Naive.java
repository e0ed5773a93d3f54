import java.util.ArrayList;
import java.util.List;
import java.util.regex.Matcher;
import java.util.regex.Pattern;

/**
 * The document's terms once more, in another way: every row, set and way is listed and looked at
 * whole. It is slow and plain, so that the program's quicker ways have something to be held against.
 */
final class Naive {
    int lines;
    int pairs;
    int hours;
    int odds;
    int fault;
    int place = -1;
    List<int[]> wants = new ArrayList<>();
    List<int[]> lends = new ArrayList<>();
    List<int[]> jobs = new ArrayList<>();
    List<int[]> said = new ArrayList<>();

    // ---- The text ----

    private static final class Stop extends RuntimeException {
        final int code;
        final int at;

        Stop(int code, int at) {
            this.code = code;
            this.at = at;
        }
    }

    private String text;
    private List<String> words;
    private List<Integer> places;
    private int now;

    static Naive read(String text) {
        Naive n = new Naive();
        n.text = text;
        n.words = new ArrayList<>();
        n.places = new ArrayList<>();
        Matcher m = Pattern.compile("[a-z]+|[0-9]+|[^ \n]", Pattern.DOTALL).matcher(text);
        while (m.find()) {
            n.words.add(m.group());
            n.places.add(m.start());
        }
        try {
            while (n.now < n.words.size()) {
                n.line();
            }
        } catch (Stop s) {
            Naive bad = new Naive();
            bad.fault = s.code;
            bad.place = s.at;
            return bad;
        }
        return n;
    }

    private Stop stop(int code) {
        return new Stop(code, now < places.size() ? places.get(now) : text.length());
    }

    private String peek() {
        return now < words.size() ? words.get(now) : "";
    }

    private void word(String due) {
        if (!peek().equals(due)) {
            throw stop(1);
        }
        now++;
    }

    private int number(int least, int most, List<Integer> forbidden) {
        if (!peek().matches("[0-9]+")) {
            throw stop(1);
        }
        java.math.BigInteger v = new java.math.BigInteger(peek());
        if (v.bitLength() > 20 || v.intValue() < least || v.intValue() > most
                || forbidden.contains(v.intValue())) {
            throw stop(2);
        }
        now++;
        return v.intValue();
    }

    private boolean maybe(String w) {
        boolean is = peek().equals(w);
        now += is ? 1 : 0;
        return is;
    }

    private void line() {
        List<Integer> none = List.of();
        if (lines == 0) {
            word("valley");
            word("pairs");
            pairs = number(1, 4, none);
            word("hours");
            hours = number(1, 12, none);
            word("odds");
            odds = number(0, 100, none);
        } else if (peek().equals("want")) {
            if (wants.size() == 9) {
                throw stop(3);
            }
            word("want");
            int p = number(0, 2 * pairs - 1, none);
            word("at");
            int h = number(0, hours - 1, none);
            word("worth");
            int w = number(1, 99, none);
            int whisper = maybe("whisper") ? 1 : 0;
            int late = maybe("late") ? 1 : 0;
            int to = maybe("to") ? number(0, 2 * pairs - 1, List.of(p)) : -1;
            wants.add(new int[] {p, h, w, whisper, late, to});
        } else if (peek().equals("lend")) {
            if (lends.size() == 6) {
                throw stop(3);
            }
            word("lend");
            int p = number(0, 2 * pairs - 1, none);
            word("to");
            int to = number(0, 2 * pairs - 1, List.of(p, p % 2 == 0 ? p + 1 : p - 1));
            word("at");
            List<Integer> taken = new ArrayList<>();
            for (int[] l : lends) {
                if (l[0] / 2 == p / 2) {
                    taken.add(l[2]);
                }
            }
            lends.add(new int[] {p, to, number(0, hours - 1, taken)});
        } else if (peek().equals("job")) {
            if (jobs.size() == 4) {
                throw stop(3);
            }
            word("job");
            word("from");
            int a = number(0, hours - 1, none);
            word("to");
            int b = number(a, hours - 1, none);
            word("pays");
            jobs.add(new int[] {a, b, number(1, 999, none)});
        } else {
            throw stop(1);
        }
        word(";");
        lines++;
    }

    /** The same valley, but for one lend. */
    Naive withoutLend(int lend) {
        Naive n = copy();
        n.lends.remove(lend);
        return n;
    }

    Naive copy() {
        Naive n = new Naive();
        n.lines = lines;
        n.pairs = pairs;
        n.hours = hours;
        n.odds = odds;
        for (int[] w : wants) {
            n.wants.add(w.clone());
        }
        n.lends.addAll(lends);
        n.jobs.addAll(jobs);
        n.said.addAll(said);
        return n;
    }

    // ---- Voices ----

    int voice(int pair, int hour) {
        for (int[] l : lends) {
            if (l[0] / 2 == pair && l[2] == hour) {
                return l[1];
            }
        }
        return -1;
    }

    int holds(int person, int hour) {
        int n = 0;
        for (int pair = 0; pair < pairs; pair++) {
            n += voice(pair, hour) == person ? 1 : 0;
        }
        return n;
    }

    boolean may(int person, int hour) {
        return holds(person, hour) > 0 || voice(person / 2, hour) == -1;
    }

    boolean share(int pair, int hour) {
        return holds(2 * pair, hour) == 0 && holds(2 * pair + 1, hour) == 0;
    }

    int mayBits(int hour) {
        int bits = 0;
        for (int p = 0; p < 2 * pairs; p++) {
            bits += may(p, hour) ? 1 << p : 0;
        }
        return bits;
    }

    /** Pairs that come back to themselves by lending, each with its ring's pairs as bits. */
    int[] ringOf(int hour) {
        int[] rings = new int[pairs];
        for (int pair = 0; pair < pairs; pair++) {
            int seen = 0;
            int at = pair;
            for (int i = 0; i < 10 && at != -1; i++) {
                seen |= 1 << at;
                at = voice(at, hour) == -1 ? -1 : voice(at, hour) / 2;
                if (at == pair) {
                    rings[pair] = seen;
                    break;
                }
            }
        }
        return rings;
    }

    // ---- Wants ----

    /** The hour of a choice (1 its own, 2 the next), -1 where there is none. */
    int hourOf(int want, int choice) {
        int h = wants.get(want)[1] + choice - 1;
        return h < hours && (choice == 1 || wants.get(want)[4] == 1) ? h : -1;
    }

    boolean can(int want, int choice) {
        int h = hourOf(want, choice);
        return h >= 0 && may(wants.get(want)[0], h);
    }

    boolean clash(int a, int ca, int b, int cb) {
        int h = hourOf(a, ca);
        if (h < 0 || h != hourOf(b, cb)) {
            return false;
        }
        int[] x = wants.get(a);
        int[] y = wants.get(b);
        if (x[0] == y[0] || x[5] == y[0] || y[5] == x[0]) {
            return true;
        }
        return x[0] / 2 == y[0] / 2 && share(x[0] / 2, h) && x[3] + y[3] < 2;
    }

    /** Every row that is a plan, the least first. */
    List<int[]> plans() {
        List<int[]> all = new ArrayList<>();
        int n = wants.size();
        int top = (int) Math.pow(3, n);
        for (int code = 0; code < top; code++) {
            int[] row = new int[n];
            int c = code;
            for (int i = n - 1; i >= 0; i--) {
                row[i] = c % 3;
                c /= 3;
            }
            if (isPlan(row)) {
                all.add(row);
            }
        }
        return all;
    }

    private boolean isPlan(int[] row) {
        for (int i = 0; i < row.length; i++) {
            if (row[i] > 0 && !can(i, row[i])) {
                return false;
            }
            for (int j = 0; j < i; j++) {
                if (row[i] > 0 && row[j] > 0 && clash(i, row[i], j, row[j])) {
                    return false;
                }
            }
        }
        return true;
    }

    int worth(int[] row) {
        int sum = 0;
        for (int i = 0; i < row.length; i++) {
            sum += row[i] > 0 ? wants.get(i)[2] : 0;
        }
        return sum;
    }

    int best(List<int[]> rows) {
        int best = -1;
        for (int[] r : rows) {
            best = Math.max(best, worth(r));
        }
        return best;
    }

    // ---- Splits ----

    int greatest(int person, int hour) {
        int g = 0;
        for (int[] w : wants) {
            if (w[0] == person && w[1] == hour) {
                g = Math.max(g, w[2]);
            }
        }
        return g;
    }

    int gets(int person, int set) {
        int sum = 0;
        for (int h = 0; h < hours; h++) {
            sum += (set >> h & 1) == 1 ? greatest(person, h) : 0;
        }
        return sum;
    }

    // ---- Jobs ----

    boolean able(int job, int person) {
        for (int h = jobs.get(job)[0]; h <= jobs.get(job)[1]; h++) {
            if (!may(person, h)) {
                return false;
            }
        }
        return true;
    }

    /** Every way to give the jobs; 8 is nobody, so that the first row is the first way. */
    List<int[]> ways() {
        List<int[]> all = new ArrayList<>();
        int n = jobs.size();
        int top = (int) Math.pow(9, n);
        for (int code = 0; code < top; code++) {
            int[] row = new int[n];
            int c = code;
            for (int i = n - 1; i >= 0; i--) {
                row[i] = c % 9;
                c /= 9;
            }
            if (isWay(row)) {
                all.add(row);
            }
        }
        return all;
    }

    private boolean isWay(int[] row) {
        for (int i = 0; i < row.length; i++) {
            if (row[i] == 8) {
                continue;
            }
            if (row[i] >= 2 * pairs || !able(i, row[i])) {
                return false;
            }
            for (int j = 0; j < i; j++) {
                if (row[j] / 2 == row[i] / 2 && row[j] != 8 && quarrel(i, row[i], j, row[j])) {
                    return false;
                }
            }
        }
        return true;
    }

    private boolean quarrel(int job, int person, int other, int doer) {
        for (int h = 0; h < hours; h++) {
            boolean both = jobs.get(job)[0] <= h && h <= jobs.get(job)[1]
                    && jobs.get(other)[0] <= h && h <= jobs.get(other)[1];
            if (both && (person == doer || share(person / 2, h))) {
                return true;
            }
        }
        return false;
    }

    int pay(int[] way) {
        int sum = 0;
        for (int i = 0; i < way.length; i++) {
            sum += way[i] == 8 ? 0 : jobs.get(i)[2];
        }
        return sum;
    }

    int bestPay(List<int[]> ways) {
        int best = -1;
        for (int[] w : ways) {
            best = Math.max(best, pay(w));
        }
        return best;
    }

    // ---- Calls ----

    boolean mayHaveCalled(long[] row, int person, int hour) {
        if (!may(person, hour)) {
            return false;
        }
        for (int i = 0; i < row.length; i += 2) {
            boolean twin = row[i + 1] == (person % 2 == 0 ? person + 1 : person - 1);
            if (row[i] == hour && (row[i + 1] == person || twin && share(person / 2, hour))) {
                return false;
            }
        }
        return true;
    }

    int culprits(long[] row, int hourSet) {
        int bits = 0;
        for (int p = 0; p < 2 * pairs; p++) {
            boolean all = true;
            for (int h = 0; h < hours; h++) {
                all &= (hourSet >> h & 1) == 0 || mayHaveCalled(row, p, h);
            }
            bits |= all ? 1 << p : 0;
        }
        return bits;
    }

    int proof(long[] row, int hourSet) {
        int due = culprits(row, hourSet);
        int fewest = 99;
        for (int set = 0; set < 1 << hours; set++) {
            if ((set & ~hourSet) == 0 && Integer.bitCount(set) < fewest && culprits(row, set) == due) {
                fewest = Integer.bitCount(set);
            }
        }
        return fewest;
    }

    int lies(long[] row) {
        int n = 0;
        for (int i = 0; i < row.length; i += 2) {
            int h = (int) row[i];
            int p = (int) row[i + 1];
            boolean lie = !may(p, h);
            for (int j = 0; j < i; j += 2) {
                lie |= row[j] == h && row[j + 1] != p && row[j + 1] / 2 == p / 2 && share(p / 2, h);
            }
            n += lie ? 1 : 0;
        }
        return n;
    }

    // ---- Days ----

    boolean fits(List<int[]> before, int want, int choice) {
        if (!can(want, choice)) {
            return false;
        }
        for (int[] s : before) {
            if (s[0] == want || clash(want, choice, s[0], s[1])) {
                return false;
            }
        }
        return true;
    }

    int judge(long[] row) {
        List<int[]> before = new ArrayList<>();
        for (int i = 0; i < row.length; i += 2) {
            int choice = (int) row[i + 1] + 1;
            if (!fits(before, (int) row[i], choice)) {
                break;
            }
            before.add(new int[] {(int) row[i], choice});
        }
        return before.size();
    }

    /** said, worth, tried and not said. */
    int[] drawn(long seed) {
        java.math.BigInteger x = java.math.BigInteger.valueOf(seed);
        List<int[]> before = new ArrayList<>();
        int[] answer = new int[3];
        for (int w = 0; w < wants.size(); w++) {
            x = x.multiply(java.math.BigInteger.valueOf(1103515245L))
                    .add(java.math.BigInteger.valueOf(12345L)).mod(java.math.BigInteger.valueOf(2147483648L));
            if (x.intValue() / 65536 % 100 < odds) {
                if (fits(before, w, 1)) {
                    before.add(new int[] {w, 1});
                    answer[0] |= 1 << w;
                    answer[1] += wants.get(w)[2];
                } else {
                    answer[2] |= 1 << w;
                }
            }
        }
        return answer;
    }

    int saidBits() {
        int bits = 0;
        for (int[] s : said) {
            bits |= 1 << s[0];
        }
        return bits;
    }

    int saidWorth() {
        int sum = 0;
        for (int[] s : said) {
            sum += wants.get(s[0])[2];
        }
        return sum;
    }

    /** The greatest worth of a plan that says all that was said as it was, less theirs. */
    int left() {
        List<int[]> fitting = new ArrayList<>();
        for (int[] row : plans()) {
            boolean all = true;
            for (int[] s : said) {
                all &= row[s[0]] == s[1];
            }
            if (all) {
                fitting.add(row);
            }
        }
        return best(fitting) - saidWorth();
    }
}
