import java.util.ArrayList;
import java.util.List;

/** Valleys made by a fixed rule, every answer held against the naive model's. */
public final class NaiveTest {
    private static long state = 20261118L;
    private static String about = "";

    private static int below(int n) {
        state = state * 6364136223846793005L + 1442695040888963407L;
        return (int) ((state >>> 33) % n);
    }

    private static void due(String call, long got, long due) {
        Probe.due(got == due ? call : call + " of " + about, got, due);
    }

    private static String blank() {
        return below(6) == 0 ? "\n " : " ";
    }

    private static String makeText() {
        int pairs = 1 + below(4);
        int hours = below(3) == 0 ? 1 + below(12) : 1 + below(4);
        StringBuilder t = new StringBuilder();
        t.append("valley pairs ").append(pairs).append(blank()).append("hours ").append(hours)
                .append(" odds ").append(below(4) == 0 ? 100 : below(101)).append(";");
        int lines = below(18);
        int[] made = new int[3];
        for (int i = 0; i < lines; i++) {
            int kind = below(9) < 5 ? 0 : below(5) < 3 ? 1 : 2;
            if (++made[kind] > (kind == 0 ? 9 : kind == 1 ? 6 : 4) && below(8) > 0) {
                continue;
            }
            t.append(blank());
            appendLine(t, kind, pairs, hours);
        }
        return t.toString();
    }

    private static void appendLine(StringBuilder t, int kind, int pairs, int hours) {
        int p = below(2 * pairs);
        if (kind == 0) {
            t.append("want ").append(p).append(" at ").append(below(hours)).append(" worth ")
                    .append(below(3) == 0 ? 5 : 1 + below(99));
            t.append(below(3) == 0 ? " whisper" : "").append(below(3) == 0 ? " late" : "");
            if (below(4) == 0) {
                t.append(" to ").append((p + 1 + below(2 * pairs - 1)) % (2 * pairs));
            }
        } else if (kind == 1) {
            int other = pairs == 1 ? 0 : (p / 2 + 1 + below(pairs - 1)) % pairs;
            t.append("lend ").append(p).append(" to ").append(2 * other + below(2)).append(" at ")
                    .append(below(hours));
        } else {
            int a = below(hours);
            t.append("job from ").append(a).append(" to ").append(a + below(hours - a)).append(" pays ")
                    .append(below(2) == 0 ? 7 : 1 + below(999));
        }
        t.append(";");
    }

    private static String spoil(String text) {
        StringBuilder t = new StringBuilder(text);
        int at = below(t.length());
        switch (below(5)) {
            case 0: t.setLength(at); break;
            case 1: t.deleteCharAt(at); break;
            case 2: t.insert(at, (char) (32 + below(96))); break;
            case 3: t.setCharAt(at, (char) below(256)); break;
            default: t.insert(at, below(2) == 0 ? " " : "9"); break;
        }
        return t.toString();
    }

    private static void compareReading(TwinVoice x, String text) {
        about = text;
        int before = x.count(7);
        Naive n = Naive.read(text);
        int lines = Probe.read(x, text);
        due("valley", lines, n.fault == 0 ? n.lines : -4);
        due("fault 0", x.fault(0), n.fault);
        due("fault 1", x.fault(1), n.place);
        due("count 7", x.count(7), n.fault == 0 ? n.lines : before);
        due("count 8", x.count(8), n.fault == 0 ? 0 : text.length());
    }

    private static void compareText(TwinVoice x, Naive n) {
        due("count 0", x.count(0), n.pairs);
        due("count 1", x.count(1), n.hours);
        due("count 2", x.count(2), n.odds);
        due("count 3", x.count(3), n.wants.size());
        due("count 4", x.count(4), n.lends.size());
        due("count 5", x.count(5), n.jobs.size());
        for (int i = -1; i <= 9; i++) {
            for (int what = -1; what <= 6; what++) {
                due("want", x.want(i, what), part(n.wants, i, what));
                due("lend", x.lend(i, what), part(n.lends, i, what));
                due("job", x.job(i, what), part(n.jobs, i, what));
            }
        }
    }

    private static int part(List<int[]> rows, int i, int what) {
        if (i < 0 || i >= rows.size() || what < 0 || what >= rows.get(i).length) {
            return -2;
        }
        return rows.get(i)[what];
    }

    private static void compareVoices(TwinVoice x, Naive n) {
        int mute = -1;
        int most = 0;
        for (int h = 0; h < n.hours; h++) {
            int all = (1 << 2 * n.pairs) - 1;
            int dumb = all & ~n.mayBits(h);
            int ring = 0;
            List<Integer> rings = new ArrayList<>();
            int[] ringOf = n.ringOf(h);
            for (int p = 0; p < n.pairs; p++) {
                due("voice", x.voice(p, h), n.voice(p, h));
                ring |= ringOf[p] != 0 ? 1 << p : 0;
                if (ringOf[p] != 0 && !rings.contains(ringOf[p])) {
                    rings.add(ringOf[p]);
                }
            }
            for (int p = 0; p < 2 * n.pairs; p++) {
                due("holds", x.holds(p, h), n.holds(p, h));
            }
            due("may", x.may(h), n.mayBits(h));
            due("dumb", x.dumb(h), dumb);
            due("ring", x.ring(h), ring);
            due("rings", x.rings(h), rings.size());
            if (Integer.bitCount(dumb) > most) {
                most = Integer.bitCount(dumb);
                mute = h;
            }
        }
        due("mute", x.mute(), mute);
    }

    private static void compareClashes(TwinVoice x, Naive n) {
        for (int a = 0; a < n.wants.size(); a++) {
            due("can", x.can(a), (n.can(a, 1) ? 1 : 0) + (n.can(a, 2) ? 2 : 0));
            int clashes = 0;
            for (int b = 0; b < n.wants.size(); b++) {
                clashes |= a != b && n.clash(a, 1, b, 1) ? 1 << b : 0;
                for (int i = 0; i < 4; i++) {
                    boolean bad = a == b || i / 2 == 1 && n.wants.get(a)[4] == 0
                            || i % 2 == 1 && n.wants.get(b)[4] == 0;
                    int due = bad ? -2 : n.clash(a, 1 + i / 2, b, 1 + i % 2) ? 1 : 0;
                    due("clash", x.clash(a, i / 2, b, i % 2), due);
                }
            }
            due("clashes", x.clashes(a), clashes);
        }
    }

    private static void comparePlans(TwinVoice x, Naive n) {
        List<int[]> plans = n.plans();
        int best = n.best(plans);
        List<int[]> greatest = new ArrayList<>(plans);
        greatest.removeIf(r -> n.worth(r) < best);
        int[] first = greatest.get(0);
        due("plan", x.plan(), best);
        due("ways", x.ways(), greatest.size());
        int surely = 0;
        int most = 0;
        for (int w = 0; w < n.wants.size(); w++) {
            final int want = w;
            due("planned", x.planned(w), first[w]);
            surely |= greatest.stream().allMatch(r -> r[want] > 0) ? 1 << w : 0;
            List<int[]> less = new ArrayList<>(plans);
            less.removeIf(r -> r[want] > 0);
            due("without", x.without(w), n.best(less));
            List<int[]> more = new ArrayList<>(plans);
            more.removeIf(r -> r[want] == 0);
            due("with", x.with(w), n.best(more));
        }
        due("surely", x.surely(), surely);
        for (int[] r : plans) {
            most = Math.max(most, (int) java.util.Arrays.stream(r).filter(c -> c > 0).count());
        }
        due("most", x.most(), most);
        compareHoursOfPlan(x, n, first, plans);
        compareLends(x, n, best);
    }

    private static void compareHoursOfPlan(TwinVoice x, Naive n, int[] first, List<int[]> plans) {
        int quiet = 0;
        int loudest = -1;
        int loud = -1;
        for (int h = 0; h < n.hours; h++) {
            int said = 0;
            for (int w = 0; w < first.length; w++) {
                said += first[w] > 0 && n.hourOf(w, first[w]) == h ? n.wants.get(w)[2] : 0;
            }
            quiet |= said == 0 ? 1 << h : 0;
            if (said > loud) {
                loud = said;
                loudest = h;
            }
            int chorus = 0;
            for (int[] r : plans) {
                int together = 0;
                for (int w = 0; w < r.length; w++) {
                    together += r[w] > 0 && n.hourOf(w, r[w]) == h ? 1 : 0;
                }
                chorus = Math.max(chorus, together);
            }
            due("chorus", x.chorus(h), chorus);
        }
        due("quiet", x.quiet(), quiet);
        due("loudest", x.loudest(), loudest);
    }

    private static void compareLends(TwinVoice x, Naive n, int best) {
        int spares = -1;
        int most = best;
        for (int i = 0; i < n.lends.size(); i++) {
            Naive less = n.withoutLend(i);
            int worth = less.best(less.plans());
            due("unlent", x.unlent(i), worth);
            if (worth > most) {
                most = worth;
                spares = i;
            }
        }
        due("spares", x.spares(), spares);
    }

    private static void compareHalves(TwinVoice x, Naive n) {
        int all = (1 << n.hours) - 1;
        for (int pair = 0; pair < n.pairs; pair++) {
            int first = 2 * pair;
            int second = first + 1;
            int best = 0;
            int fair = 0;
            int calm = 0;
            int nearest = Integer.MAX_VALUE;
            for (int s = 0; s <= all; s++) {
                int a = n.gets(first, s);
                int b = n.gets(second, all & ~s);
                if (a * b > n.gets(first, best) * n.gets(second, all & ~best)) {
                    best = s;
                }
                fair = Math.max(fair, Math.min(a, b));
                calm += 2 * a >= n.gets(first, all) && 2 * b >= n.gets(second, all) ? 1 : 0;
                nearest = Math.min(nearest, Math.abs(a - b));
            }
            due("split", x.split(pair), best);
            due("gets", x.gets(first), n.gets(first, best));
            due("gets", x.gets(second), n.gets(second, all & ~best));
            due("fair", x.fair(pair), fair);
            due("calm", x.calm(pair), calm);
            due("nearest", x.nearest(pair), nearest);
            compareIdle(x, n, pair);
        }
    }

    private static void compareIdle(TwinVoice x, Naive n, int pair) {
        int idle = 0;
        for (int h = 0; h < n.hours; h++) {
            int cost = below(3) == 0 ? 0 : below(100);
            int u = n.greatest(2 * pair, h);
            int v = n.greatest(2 * pair + 1, h);
            due("rests", x.rests(pair, h, cost), 2 + (cost == 0 ? 1 : 0) + (u + v == 0 ? 1 : 0));
            idle |= n.voice(pair, h) == -1 && u + v == 0 ? 1 << h : 0;
        }
        due("idle", x.idle(pair), idle);
        for (int p = 2 * pair; p <= 2 * pair + 1; p++) {
            int hours = 0;
            int run = 0;
            for (int a = 0; a < n.hours; a++) {
                hours |= n.greatest(p, a) > 0 ? 1 << a : 0;
                for (int b = a; b < n.hours && n.may(p, b); b++) {
                    run = Math.max(run, b - a + 1);
                }
            }
            int asked = 0;
            for (int w = 0; w < n.wants.size(); w++) {
                asked |= n.wants.get(w)[5] == p ? 1 << w : 0;
            }
            due("hours", x.hours(p), hours);
            due("run", x.run(p), run);
            due("asked", x.asked(p), asked);
        }
    }

    private static void compareJobs(TwinVoice x, Naive n) {
        List<int[]> ways = n.ways();
        int best = n.bestPay(ways);
        due("hire", x.hire(), best);
        List<int[]> greatest = new ArrayList<>(ways);
        greatest.removeIf(w -> n.pay(w) < best);
        for (int j = 0; j < n.jobs.size(); j++) {
            int doer = greatest.get(0)[j];
            due("hired", x.hired(j), doer == 8 ? -1 : doer);
            int able = 0;
            for (int p = 0; p < 2 * n.pairs; p++) {
                able |= n.able(j, p) ? 1 << p : 0;
            }
            due("able", x.able(j), able);
            due("asks", x.asks(j), asks(n, ways, j));
        }
    }

    private static int asks(Naive n, List<int[]> ways, int job) {
        int was = n.jobs.get(job)[2];
        int least = -1;
        for (int pay = 1; pay <= 999 && least == -1; pay++) {
            int given = -1;
            int all = -1;
            for (int[] w : ways) {
                int sum = n.pay(w) + (w[job] == 8 ? 0 : pay - was);
                all = Math.max(all, sum);
                given = w[job] == 8 ? given : Math.max(given, sum);
            }
            least = given == all ? pay : -1;
        }
        return least;
    }

    private static void compareCalls(TwinVoice x, Naive n) {
        long[] row = new long[2 * below(12)];
        for (int i = 0; i < row.length; i += 2) {
            row[i] = below(n.hours);
            row[i + 1] = below(2 * n.pairs);
        }
        Probe.fill(x, 1, below(4), row);
        for (int h = 0; h < n.hours; h++) {
            due("callers", x.callers(1, h), n.culprits(row, 1 << h));
        }
        int set = below(1 << n.hours);
        due("culprits", x.culprits(1, set), n.culprits(row, set));
        due("proof", x.proof(1, set), n.proof(row, set));
        due("proof of all", x.proof(1, (1 << n.hours) - 1), n.proof(row, (1 << n.hours) - 1));
        due("lies", x.lies(1), n.lies(row));
        for (int p = 0; p < 2 * n.pairs; p++) {
            int alibi = 0;
            for (int h = 0; h < n.hours; h++) {
                alibi |= n.mayHaveCalled(row, p, h) ? 1 << h : 0;
            }
            due("alibi", x.alibi(1, p), alibi);
        }
    }

    private static void compareDays(TwinVoice x, Naive n) {
        int seed = below(2) == 0 ? below(50) : below(2000000000);
        int[] drawn = n.drawn(seed);
        for (int what = 0; what < 3; what++) {
            due("drawn", x.drawn(seed, what), drawn[what]);
        }
        if (n.wants.isEmpty()) {
            return;
        }
        int days = 1 + below(20);
        int want = below(n.wants.size());
        int luck = 0;
        for (int i = 0; i < days; i++) {
            luck += n.drawn(seed + i)[0] >> want & 1;
        }
        due("luck", x.luck(seed, days, want), luck);
        long[] row = new long[2 * below(8)];
        for (int i = 0; i < row.length; i += 2) {
            row[i] = below(n.wants.size());
            row[i + 1] = n.wants.get((int) row[i])[4] == 1 ? below(2) : 0;
        }
        Probe.fill(x, 2, below(4), row);
        due("judge", x.judge(2), n.judge(row));
    }

    private static void compareSayings(TwinVoice x, Naive n) {
        for (int i = 0; i < 12 && !n.wants.isEmpty(); i++) {
            int want = below(n.wants.size());
            int late = below(2);
            if (below(5) == 0) {
                due("undo", x.undo(), n.said.isEmpty() ? -5 : n.said.size() - 1);
                if (!n.said.isEmpty()) {
                    n.said.remove(n.said.size() - 1);
                }
            } else if (below(6) == 0) {
                int was = n.wants.get(want)[2];
                int worth = 1 + below(99);
                due("rate", x.rate(want, worth), n.said.isEmpty() ? was : -5);
                n.wants.get(want)[2] = n.said.isEmpty() ? worth : was;
            } else if (late == 1 && n.wants.get(want)[4] == 0) {
                due("say", x.say(want, late), -2);
            } else if (!n.fits(n.said, want, 1 + late)) {
                due("say", x.say(want, late), -5);
            } else {
                n.said.add(new int[] {want, 1 + late});
                due("say", x.say(want, late), n.saidWorth());
            }
            due("said", x.said(), n.saidBits());
            due("worth", x.worth(), n.saidWorth());
            due("count 6", x.count(6), n.said.size());
            if (i % 4 == 3) {
                due("left", x.left(), n.left());
                due("plan", x.plan(), n.best(n.plans()));
            }
        }
    }

    private static void compareValley(String text) {
        TwinVoice x = new TwinVoice();
        compareReading(x, text);
        Naive n = Naive.read(text);
        compareText(x, n);
        if (n.lines == 0) {
            return;
        }
        compareVoices(x, n);
        compareClashes(x, n);
        comparePlans(x, n);
        compareHalves(x, n);
        compareJobs(x, n);
        compareCalls(x, n);
        compareDays(x, n);
        compareImages(x, n);
    }

    /** Says, keeps, says on, goes back, and says on from there. */
    private static void compareImages(TwinVoice x, Naive n) {
        compareSayings(x, n);
        Naive kept = n.copy();
        due("image", x.image(2), 0);
        compareSayings(x, n);
        Probe.read(x, "valley pairs 1 hours 1 odds 0; want 0 at 0 worth 1;");
        due("say", x.say(0, 0), 1);
        due("back", x.back(2), 0);
        due("said", x.said(), kept.saidBits());
        due("worth", x.worth(), kept.saidWorth());
        compareText(x, kept);
        compareVoices(x, kept);
        compareSayings(x, kept);
    }

    public static void main(String[] args) {
        int valleys = args.length > 0 ? Integer.parseInt(args[0]) : 400;
        for (int i = 0; i < valleys && Probe.clean(); i++) {
            String text = makeText();
            if (text.length() <= 800) {
                compareValley(text);
            }
        }
        TwinVoice x = new TwinVoice();
        for (int i = 0; i < 100 * valleys && Probe.clean(); i++) {
            String text = spoil(makeText());
            if (text.length() <= 800) {
                compareReading(x, text);
            }
        }
        Probe.close("NaiveTest");
    }
}
