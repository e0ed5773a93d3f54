/**
 * A valley of twins who share one voice, told as a text on a tape. The document's promises 1 to 65
 * say what each call answers; its terms I to VIII stand beside the class inside that keeps them.
 *
 * <p>All rows are made here once and used again, because every call of a run lives in one room.
 */
public final class TwinVoice {
    public static final int NONE = -1;

    private static final int NO_SUCH = -2;
    private static final int BELOW_ZERO = -3;
    private static final int FAULTY = -4;
    private static final int REFUSED = -5;
    private static final int NOTHING = -6;
    private static final int BEYOND = -7;
    private static final int UNLIKE = -8;

    private static final int TAPE_LIMIT = 800;
    private static final int MOST_PAIRS = 4;
    private static final int MOST_PERSONS = 8;
    private static final int MOST_HOURS = 12;
    private static final int MOST_ODDS = 100;
    private static final int MOST_WANTS = 9;
    private static final int MOST_LENDS = 6;
    private static final int MOST_JOBS = 4;
    private static final int MOST_WORTH = 99;
    private static final int MOST_PAY = 999;
    private static final int MOST_COST = 99;
    private static final int MOST_SEED = 2000000000;
    private static final int MOST_DAYS = 20;
    private static final int MOST_NUMBERS = 60;
    private static final int WIDEST = 3;
    private static final int IMAGES = 3;
    private static final int SLOTS = 4;

    /** What a want's row holds, by place. */
    private static final int PERSON = 0;
    private static final int HOUR = 1;
    private static final int WORTH = 2;
    private static final int WHISPER = 3;
    private static final int LATE = 4;
    private static final int ASKED = 5;
    private static final int WANT_CELLS = 6;

    /** What a lend's row holds, by place. */
    private static final int LENDER = 0;
    private static final int HOLDER = 1;
    private static final int LENT_AT = 2;
    private static final int LEND_CELLS = 3;

    /** What a job's row holds, by place. */
    private static final int FIRST_HOUR = 0;
    private static final int LAST_HOUR = 1;
    private static final int PAYS = 2;
    private static final int JOB_CELLS = 3;

    /** A want in its hour or in the next one: option 2 * want + late, so that sets of them fit an int. */
    private static final int OPTIONS = 18;

    private final Reader reader = new Reader();
    private final Valley here = new Valley();
    private final Valley draft = new Valley();
    private final Valley[] images = {new Valley(), new Valley(), new Valley()};
    private final boolean[] imageKept = new boolean[IMAGES];
    private final Table table = new Table();
    private final Table bareTable = new Table();
    private final Search search = new Search();
    private final Plans plans = new Plans();
    private final Hiring hiring = new Hiring();
    private final Halves halves = new Halves();
    private final Calls calls = new Calls();
    private final Day day = new Day();
    private final Slot[] slots = {new Slot(), new Slot(), new Slot(), new Slot()};

    public TwinVoice() {
    }

    // ---- The tape and the valley (promises 2 to 8) ----

    public int feed(int a, int b, int c, int d, int e) {
        Tape tape = reader.tape;
        if (tape.size > TAPE_LIMIT - 20) {
            return NONE;
        }
        tape.add(a);
        tape.add(b);
        tape.add(c);
        tape.add(d);
        tape.add(e);
        return tape.size;
    }

    public int end(int n) {
        if (n < 0 || n > reader.tape.size) {
            return NONE;
        }
        reader.tape.size = n;
        return n;
    }

    public int valley() {
        if (!reader.readAll(draft)) {
            return FAULTY;
        }
        reader.tape.size = 0;
        here.become(draft);
        lookAnew();
        return here.lines;
    }

    public int fault(int what) {
        if (what == 0) {
            return reader.fault;
        }
        return what == 1 ? reader.place : NONE;
    }

    public int want(int want, int what) {
        if (!isWant(want) || what < 0 || what >= WANT_CELLS) {
            return NO_SUCH;
        }
        return cell(here.wantRows, want, what);
    }

    public int lend(int lend, int what) {
        if (!isLend(lend) || what < 0 || what >= LEND_CELLS) {
            return NO_SUCH;
        }
        return cell(here.lendRows, lend, what);
    }

    public int job(int job, int what) {
        if (!isJob(job) || what < 0 || what >= JOB_CELLS) {
            return NO_SUCH;
        }
        return cell(here.jobRows, job, what);
    }

    // ---- Voices (promises 9 to 15) ----

    public int voice(int pair, int hour) {
        return isPair(pair) && isHour(hour) ? here.holderOf(pair, hour) : NO_SUCH;
    }

    public int holds(int person, int hour) {
        return isPerson(person) && isHour(hour) ? here.heldBy(person, hour) : NO_SUCH;
    }

    public int may(int hour) {
        return isHour(hour) ? table.speakersAt(hour) : NO_SUCH;
    }

    public int dumb(int hour) {
        return isHour(hour) ? dumbAt(hour) : NO_SUCH;
    }

    public int rings(int hour) {
        if (!isHour(hour)) {
            return NO_SUCH;
        }
        int found = 0;
        for (int pair = 0; pair < here.pairs; pair++) {
            if (here.leastOfRing(pair, hour) == pair) {
                found++;
            }
        }
        return found;
    }

    public int ring(int hour) {
        if (!isHour(hour)) {
            return NO_SUCH;
        }
        int found = 0;
        for (int pair = 0; pair < here.pairs; pair++) {
            if (here.leastOfRing(pair, hour) != NONE) {
                found |= 1 << pair;
            }
        }
        return found;
    }

    public int mute() {
        if (!isValley()) {
            return NO_SUCH;
        }
        int first = NONE;
        int most = 0;
        for (int hour = 0; hour < here.hours; hour++) {
            int dumb = Integer.bitCount(dumbAt(hour));
            if (dumb > most) {
                most = dumb;
                first = hour;
            }
        }
        return first;
    }

    // ---- What can be said, what clashes (promises 16 to 18) ----

    public int can(int want) {
        return isWant(want) ? (table.sayable >> (2 * want)) & 3 : NO_SUCH;
    }

    public int clash(int want, int late, int other, int otherLate) {
        if (!isOption(want, late) || !isOption(other, otherLate) || want == other) {
            return NO_SUCH;
        }
        return has(at(table.clashing, 2 * want + late), 2 * other + otherLate) ? 1 : 0;
    }

    public int clashes(int want) {
        if (!isWant(want)) {
            return NO_SUCH;
        }
        int found = 0;
        for (int other = 0; other < here.wants; other++) {
            if (has(at(table.clashing, 2 * want), 2 * other)) {
                found |= 1 << other;
            }
        }
        return found;
    }

    // ---- Plans (promises 19 to 30) ----

    public int plan() {
        if (!isValley()) {
            return NO_SUCH;
        }
        findPlans();
        return plans.most;
    }

    public int planned(int want) {
        if (!isWant(want)) {
            return NO_SUCH;
        }
        findPlans();
        return at(plans.first, want);
    }

    public int ways() {
        if (!isValley()) {
            return NO_SUCH;
        }
        findPlans();
        return plans.found;
    }

    public int surely() {
        if (!isValley()) {
            return NO_SUCH;
        }
        findPlans();
        return plans.always;
    }

    public int quiet() {
        if (!isValley()) {
            return NO_SUCH;
        }
        findPlans();
        int silent = 0;
        for (int hour = 0; hour < here.hours; hour++) {
            if (plans.worthAt(here, table, hour) == 0) {
                silent |= 1 << hour;
            }
        }
        return silent;
    }

    public int loudest() {
        if (!isValley()) {
            return NO_SUCH;
        }
        findPlans();
        int first = 0;
        for (int hour = 1; hour < here.hours; hour++) {
            if (plans.worthAt(here, table, hour) > plans.worthAt(here, table, first)) {
                first = hour;
            }
        }
        return first;
    }

    public int without(int want) {
        if (!isWant(want)) {
            return NO_SUCH;
        }
        search.weighWorth(here);
        return search.bestOf(table, table.sayable & ~(3 << (2 * want)));
    }

    public int with(int want) {
        if (!isWant(want)) {
            return NO_SUCH;
        }
        search.weighWorth(here);
        int others = table.sayable & ~(3 << (2 * want));
        int best = NONE;
        for (int option = 2 * want; option <= 2 * want + 1; option++) {
            if (has(table.sayable, option)) {
                int rest = search.bestOf(table, others & ~at(table.clashing, option));
                best = Math.max(best, cell(here.wantRows, want, WORTH) + rest);
            }
        }
        return best;
    }

    public int unlent(int lend) {
        return isLend(lend) ? bestWithoutLend(lend) : NO_SUCH;
    }

    public int spares() {
        if (!isValley()) {
            return NO_SUCH;
        }
        int most = bestWithoutLend(NONE);
        int first = NONE;
        for (int lend = 0; lend < here.lends; lend++) {
            int best = bestWithoutLend(lend);
            if (best > most) {
                most = best;
                first = lend;
            }
        }
        return first;
    }

    public int most() {
        if (!isValley()) {
            return NO_SUCH;
        }
        search.weighOne(here);
        return search.bestOf(table, table.sayable);
    }

    public int chorus(int hour) {
        if (!isHour(hour)) {
            return NO_SUCH;
        }
        search.weighOne(here);
        return search.bestOf(table, table.sayable & table.optionsAt(hour));
    }

    // ---- Hours split between twins, spite (promises 31 to 36) ----

    public int split(int pair) {
        if (!isPair(pair)) {
            return NO_SUCH;
        }
        halves.tally(here, pair);
        return halves.bestSet;
    }

    public int gets(int person) {
        if (!isPerson(person)) {
            return NO_SUCH;
        }
        halves.tally(here, person / 2);
        return person % 2 == 0 ? halves.bestFirst : halves.bestSecond;
    }

    public int fair(int pair) {
        if (!isPair(pair)) {
            return NO_SUCH;
        }
        halves.tally(here, pair);
        return halves.fairest;
    }

    public int calm(int pair) {
        if (!isPair(pair)) {
            return NO_SUCH;
        }
        halves.tally(here, pair);
        return halves.calmSets;
    }

    public int nearest(int pair) {
        if (!isPair(pair)) {
            return NO_SUCH;
        }
        halves.tally(here, pair);
        return halves.leastGap;
    }

    public int rests(int pair, int hour, int cost) {
        if (!isPair(pair) || !isHour(hour) || cost < 0 || cost > MOST_COST) {
            return NO_SUCH;
        }
        int firstAlone = here.greatestWorth(2 * pair, hour);
        int secondAlone = here.greatestWorth(2 * pair + 1, hour);
        int found = 0;
        for (int first = 0; first <= 1; first++) {
            for (int second = 0; second <= 1; second++) {
                int firstHas = spite(first, second, firstAlone, cost);
                int firstElse = spite(1 - first, second, firstAlone, cost);
                int secondHas = spite(second, first, secondAlone, cost);
                int secondElse = spite(1 - second, first, secondAlone, cost);
                if (firstElse <= firstHas && secondElse <= secondHas) {
                    found++;
                }
            }
        }
        return found;
    }

    // ---- Persons and their hours (promises 37 to 40) ----

    public int hours(int person) {
        return isPerson(person) ? here.wantedHours(person) : NO_SUCH;
    }

    public int idle(int pair) {
        if (!isPair(pair)) {
            return NO_SUCH;
        }
        int wanted = here.wantedHours(2 * pair) | here.wantedHours(2 * pair + 1);
        return at(table.homeHours, pair) & ~wanted;
    }

    public int run(int person) {
        if (!isPerson(person)) {
            return NO_SUCH;
        }
        int longest = 0;
        int now = 0;
        for (int hour = 0; hour < here.hours; hour++) {
            now = table.mayAt(person, hour) ? now + 1 : 0;
            longest = Math.max(longest, now);
        }
        return longest;
    }

    public int asked(int person) {
        if (!isPerson(person)) {
            return NO_SUCH;
        }
        int found = 0;
        for (int want = 0; want < here.wants; want++) {
            if (cell(here.wantRows, want, ASKED) == person) {
                found |= 1 << want;
            }
        }
        return found;
    }

    // ---- Jobs (promises 41 to 44) ----

    public int hire() {
        return isValley() ? hiring.bestOf(here, table, NONE, NONE) : NO_SUCH;
    }

    public int hired(int job) {
        if (!isJob(job)) {
            return NO_SUCH;
        }
        hiring.bestOf(here, table, NONE, NONE);
        return at(hiring.first, job);
    }

    public int able(int job) {
        return isJob(job) ? ableFor(here, table, job) : NO_SUCH;
    }

    public int asks(int job) {
        if (!isJob(job)) {
            return NO_SUCH;
        }
        int othersAlone = hiring.bestOf(here, table, job, NONE);
        int othersBeside = hiring.bestOf(here, table, NONE, job);
        if (othersBeside == NONE) {
            return NONE;
        }
        int least = Math.max(1, othersAlone - othersBeside);
        return least <= MOST_PAY ? least : NONE;
    }

    // ---- Who can have called (promises 45 to 49) ----

    public int callers(int slot, int hour) {
        if (!isHour(hour)) {
            return NO_SUCH;
        }
        int heard = hearCalls(slot);
        return heard == 0 ? calls.callersAt(here, table, hour) : heard;
    }

    public int culprits(int slot, int hours) {
        if (!isHourSet(hours)) {
            return NO_SUCH;
        }
        int heard = hearCalls(slot);
        return heard == 0 ? calls.callersInAll(here, table, hours) : heard;
    }

    public int proof(int slot, int hours) {
        if (!isHourSet(hours)) {
            return NO_SUCH;
        }
        int heard = hearCalls(slot);
        return heard == 0 ? calls.fewestHours(here, table, hours) : heard;
    }

    public int alibi(int slot, int person) {
        if (!isPerson(person)) {
            return NO_SUCH;
        }
        int heard = hearCalls(slot);
        if (heard != 0) {
            return heard;
        }
        int found = 0;
        for (int hour = 0; hour < here.hours; hour++) {
            if (has(calls.callersAt(here, table, hour), person)) {
                found |= 1 << hour;
            }
        }
        return found;
    }

    public int lies(int slot) {
        int heard = hearCalls(slot);
        if (heard != 0) {
            return heard;
        }
        Slot row = slotAt(slot);
        return row == null ? NO_SUCH : calls.liesIn(row, table);
    }

    // ---- Wants said one by one (promises 50 to 56, 59) ----

    public int say(int want, int late) {
        if (!isOption(want, late)) {
            return NO_SUCH;
        }
        int option = 2 * want + late;
        if (!table.admits(option, here.saidOptions())) {
            return REFUSED;
        }
        here.addSaid(option);
        return here.worthOf(wantsOf(here.saidOptions()));
    }

    public int said() {
        return isValley() ? wantsOf(here.saidOptions()) : NO_SUCH;
    }

    public int worth() {
        return isValley() ? here.worthOf(wantsOf(here.saidOptions())) : NO_SUCH;
    }

    public int left() {
        if (!isValley()) {
            return NO_SUCH;
        }
        int said = here.saidOptions();
        int free = 0;
        for (int option = 0; option < 2 * here.wants; option++) {
            if (table.admits(option, said)) {
                free |= 1 << option;
            }
        }
        search.weighWorth(here);
        return search.bestOf(table, free);
    }

    public int undo() {
        if (!isValley()) {
            return NO_SUCH;
        }
        if (here.sayings == 0) {
            return REFUSED;
        }
        here.sayings--;
        return here.sayings;
    }

    public int anew() {
        if (!isValley()) {
            return NO_SUCH;
        }
        int were = here.sayings;
        here.sayings = 0;
        return were;
    }

    public int judge(int slot) {
        int unfit = unfitPairs(slot);
        Slot row = slotAt(slot);
        if (unfit != 0 || row == null) {
            return unfit != 0 ? unfit : NO_SUCH;
        }
        for (int i = 0; i + 1 < row.size; i += 2) {
            if (!isOption(row.small(i), row.small(i + 1))) {
                return NO_SUCH;
            }
        }
        int said = 0;
        for (int i = 0; i + 1 < row.size; i += 2) {
            int option = 2 * row.small(i) + row.small(i + 1);
            if (!table.admits(option, said)) {
                return i / 2;
            }
            said |= 1 << option;
        }
        return row.size / 2;
    }

    public int rate(int want, int n) {
        if (!isWant(want) || n < 1 || n > MOST_WORTH) {
            return NO_SUCH;
        }
        if (here.sayings > 0) {
            return REFUSED;
        }
        int was = cell(here.wantRows, want, WORTH);
        put(here.wantRows, want, WORTH, n);
        plans.fresh = false;
        return was;
    }

    // ---- Days drawn (promises 57 and 58) ----

    public int drawn(int seed, int what) {
        if (!isValley() || !isSeed(seed) || what < 0 || what > 2) {
            return NO_SUCH;
        }
        day.pass(here, table, seed);
        int said = wantsOf(day.said);
        if (what == 0) {
            return said;
        }
        return what == 1 ? here.worthOf(said) : day.tried & ~said;
    }

    public int luck(int seed, int n, int want) {
        if (!isWant(want) || !isSeed(seed) || n < 1 || n > MOST_DAYS) {
            return NO_SUCH;
        }
        int lucky = 0;
        for (int i = 0; i < n; i++) {
            day.pass(here, table, (long) seed + i);
            if (has(wantsOf(day.said), want)) {
                lucky++;
            }
        }
        return lucky;
    }

    // ---- Counts, images and slots (promises 60 to 65) ----

    public int count(int what) {
        switch (what) {
            case 0: return here.pairs;
            case 1: return here.hours;
            case 2: return here.odds;
            case 3: return here.wants;
            case 4: return here.lends;
            case 5: return here.jobs;
            case 6: return here.sayings;
            case 7: return here.lines;
            case 8: return reader.tape.size;
            case 9: return slotsWithRow();
            default: return NONE;
        }
    }

    public int image(int k) {
        Valley kept = imageAt(k);
        if (kept == null) {
            return NO_SUCH;
        }
        kept.become(here);
        imageKept[k] = true;
        return 0;
    }

    public int back(int k) {
        Valley kept = imageAt(k);
        if (kept == null) {
            return NO_SUCH;
        }
        if (!imageKept[k]) {
            return NOTHING;
        }
        here.become(kept);
        lookAnew();
        return 0;
    }

    public int row(int slot, int width, int n) {
        Slot row = slotAt(slot);
        if (row == null || width < 0 || width > WIDEST || n > MOST_NUMBERS) {
            return NO_SUCH;
        }
        if (n < 0) {
            return BELOW_ZERO;
        }
        row.begin(width, n);
        return 0;
    }

    public int write(int slot, int i, long v) {
        Slot row = slotAt(slot);
        if (row == null) {
            return NO_SUCH;
        }
        if (row.isNothing()) {
            return NOTHING;
        }
        if (i < 0 || i >= row.size || i >= row.numbers.length) {
            return BEYOND;
        }
        row.numbers[i] = row.cut(v);
        return 0;
    }

    public int paste(int slot, int i, int to, int k, int n) {
        Slot source = slotAt(slot);
        Slot target = slotAt(to);
        if (source == null || target == null) {
            return NO_SUCH;
        }
        if (source.isNothing() || target.isNothing()) {
            return NOTHING;
        }
        if (source.width != target.width) {
            return UNLIKE;
        }
        if (!source.holdsPart(i, n) || !target.holdsPart(k, n)) {
            return BEYOND;
        }
        System.arraycopy(source.numbers, i, target.numbers, k, n);
        return 0;
    }

    // ---- What calls ask first ----

    private boolean isValley() {
        return here.lines > 0;
    }

    private boolean isPair(int pair) {
        return pair >= 0 && pair < here.pairs;
    }

    private boolean isPerson(int person) {
        return person >= 0 && person < here.persons();
    }

    private boolean isHour(int hour) {
        return hour >= 0 && hour < here.hours;
    }

    private boolean isHourSet(int set) {
        return isValley() && set >= 0 && set < (1 << here.hours);
    }

    private boolean isWant(int want) {
        return want >= 0 && want < here.wants;
    }

    private boolean isLend(int lend) {
        return lend >= 0 && lend < here.lends;
    }

    private boolean isJob(int job) {
        return job >= 0 && job < here.jobs;
    }

    /** A want that isn't late has no next hour; one that is has it even where the day ends. */
    private boolean isOption(int want, int late) {
        return isWant(want) && (late == 0 || late == 1 && cell(here.wantRows, want, LATE) == 1);
    }

    private static boolean isSeed(int seed) {
        return seed >= 0 && seed <= MOST_SEED;
    }

    private Slot slotAt(int slot) {
        return slot >= 0 && slot < SLOTS && slot < slots.length ? slots[slot] : null;
    }

    /** Whoever gets an image here may use k as an index of imageKept too. */
    private Valley imageAt(int k) {
        return k >= 0 && k < images.length && k < imageKept.length ? images[k] : null;
    }

    /** 0, or why a slot's row can't be read as rows of two numbers. */
    private int unfitPairs(int slot) {
        Slot row = slotAt(slot);
        if (!isValley() || row == null) {
            return NO_SUCH;
        }
        if (row.isNothing()) {
            return NOTHING;
        }
        return row.size % 2 == 0 ? 0 : NO_SUCH;
    }

    /** 0, or why a slot's row tells no hours and persons. */
    private int hearCalls(int slot) {
        int unfit = unfitPairs(slot);
        Slot row = slotAt(slot);
        if (unfit != 0 || row == null) {
            return unfit != 0 ? unfit : NO_SUCH;
        }
        for (int i = 0; i + 1 < row.size; i += 2) {
            if (!isHour(row.small(i)) || !isPerson(row.small(i + 1))) {
                return NO_SUCH;
            }
        }
        calls.hear(row);
        return 0;
    }

    // ---- What several calls need ----

    private void lookAnew() {
        table.lay(here, NONE);
        plans.fresh = false;
    }

    /** Plans are kept until the valley or a worth changes, as six calls answer from them. */
    private void findPlans() {
        if (!plans.fresh) {
            search.weighWorth(here);
            plans.find(search, table, search.bestOf(table, table.sayable));
        }
    }

    private int bestWithoutLend(int lend) {
        bareTable.lay(here, lend);
        search.weighWorth(here);
        return search.bestOf(bareTable, bareTable.sayable);
    }

    private int dumbAt(int hour) {
        return ((1 << here.persons()) - 1) & ~table.speakersAt(hour);
    }

    private int slotsWithRow() {
        int found = 0;
        for (int i = 0; i < slots.length; i++) {
            if (!slots[i].isNothing()) {
                found++;
            }
        }
        return found;
    }

    /** What a twin has of a choice (1 takes the voice) beside the other twin's. */
    private static int spite(int own, int others, int alone, int cost) {
        if (own == 0) {
            return 0;
        }
        return others == 0 ? alone : -cost;
    }

    private static int ableFor(Valley v, Table t, int job) {
        int span = v.jobHours(job);
        int found = 0;
        for (int person = 0; person < v.persons(); person++) {
            if ((at(t.mayHours, person) & span) == span) {
                found |= 1 << person;
            }
        }
        return found;
    }

    private static int wantsOf(int options) {
        int found = 0;
        for (int want = 0; want < MOST_WANTS; want++) {
            if (((options >> (2 * want)) & 3) != 0) {
                found |= 1 << want;
            }
        }
        return found;
    }

    private static boolean has(int set, int i) {
        return i >= 0 && i < 31 && ((set >> i) & 1) == 1;
    }

    private static int at(int[] row, int i) {
        return i >= 0 && i < row.length ? row[i] : 0;
    }

    private static int cell(int[][] rows, int i, int j) {
        return i >= 0 && i < rows.length ? at(rows[i], j) : 0;
    }

    private static void put(int[][] rows, int i, int j, int value) {
        if (i >= 0 && i < rows.length && j >= 0 && j < rows[i].length) {
            rows[i][j] = value;
        }
    }

    private static void copyRows(int[][] from, int[][] to) {
        for (int i = 0; i < from.length; i++) {
            for (int j = 0; j < from[i].length; j++) {
                put(to, i, j, from[i][j]);
            }
        }
    }

    /** The bytes fed, and the token that is looked at (I). */
    private static final class Tape {
        static final int END = 0;
        static final int WORD = 1;
        static final int NUMBER = 2;
        static final int SIGN = 3;
        static final int OTHER = 4;

        /** Above every bound, so that numbers of many digits don't wrap around. */
        private static final int ENOUGH = 100000;

        private final byte[] bytes = new byte[TAPE_LIMIT];
        int size;
        int start;
        int kind;
        private int stop;

        void add(int number) {
            for (int shift = 24; shift >= 0; shift -= 8) {
                if (size >= 0 && size < bytes.length) {
                    bytes[size] = (byte) (number >> shift);
                    size++;
                }
            }
        }

        void rewind() {
            stop = 0;
            step();
        }

        void step() {
            int i = stop;
            while (i < size && isBlank(byteAt(i))) {
                i++;
            }
            start = i;
            kind = i < size ? kindOf(byteAt(i)) : END;
            stop = i < size ? i + 1 : i;
            while ((kind == WORD || kind == NUMBER) && stop < size && kindOf(byteAt(stop)) == kind) {
                stop++;
            }
        }

        boolean isWord(String word) {
            if (kind != WORD || stop - start != word.length()) {
                return false;
            }
            for (int i = 0; i < word.length(); i++) {
                if (byteAt(start + i) != word.charAt(i)) {
                    return false;
                }
            }
            return true;
        }

        int number() {
            int value = 0;
            for (int i = start; i < stop; i++) {
                value = Math.min(10 * value + byteAt(i) - '0', ENOUGH);
            }
            return value;
        }

        private int byteAt(int i) {
            return i >= 0 && i < bytes.length ? bytes[i] & 255 : 0;
        }

        private static boolean isBlank(int sign) {
            return sign == 32 || sign == 10;
        }

        private static int kindOf(int sign) {
            if (sign >= 'a' && sign <= 'z') {
                return WORD;
            }
            if (sign >= '0' && sign <= '9') {
                return NUMBER;
            }
            return sign == ';' ? SIGN : OTHER;
        }
    }

    /** Reads the tape line by line (I). Behind the first fault nothing is read any more. */
    private static final class Reader {
        private static final int MISPLACED = 1;
        private static final int OUT_OF_BOUNDS = 2;
        private static final int TOO_MANY = 3;

        final Tape tape = new Tape();
        int fault;
        int place = NONE;

        boolean readAll(Valley v) {
            v.clear();
            fault = 0;
            place = NONE;
            tape.rewind();
            for (int i = 0; i < TAPE_LIMIT && fault == 0 && tape.kind != Tape.END; i++) {
                readLine(v);
            }
            return fault == 0;
        }

        private void readLine(Valley v) {
            if (v.lines == 0) {
                readValley(v);
            } else if (tape.isWord("want")) {
                readWant(v);
            } else if (tape.isWord("lend")) {
                readLend(v);
            } else if (tape.isWord("job")) {
                readJob(v);
            } else {
                blame(MISPLACED);
            }
            v.lines++;
        }

        private void readValley(Valley v) {
            skip("valley");
            skip("pairs");
            v.pairs = number(1, MOST_PAIRS, 0);
            skip("hours");
            v.hours = number(1, MOST_HOURS, 0);
            skip("odds");
            v.odds = number(0, MOST_ODDS, 0);
            skipSign();
        }

        private void readWant(Valley v) {
            open(v.wants, MOST_WANTS);
            int person = number(0, v.persons() - 1, 0);
            skip("at");
            int hour = number(0, v.hours - 1, 0);
            skip("worth");
            int worth = number(1, MOST_WORTH, 0);
            int whisper = skipsIf("whisper") ? 1 : 0;
            int late = skipsIf("late") ? 1 : 0;
            int asked = skipsIf("to") ? number(0, v.persons() - 1, 1 << person) : NONE;
            skipSign();
            if (fault == 0) {
                put(v.wantRows, v.wants, PERSON, person);
                put(v.wantRows, v.wants, HOUR, hour);
                put(v.wantRows, v.wants, WORTH, worth);
                put(v.wantRows, v.wants, WHISPER, whisper);
                put(v.wantRows, v.wants, LATE, late);
                put(v.wantRows, v.wants, ASKED, asked);
                v.wants++;
            }
        }

        private void readLend(Valley v) {
            open(v.lends, MOST_LENDS);
            int lender = number(0, v.persons() - 1, 0);
            skip("to");
            int holder = number(0, v.persons() - 1, 3 << (lender / 2 * 2));
            skip("at");
            int hour = number(0, v.hours - 1, v.lentHours(lender / 2));
            skipSign();
            if (fault == 0) {
                put(v.lendRows, v.lends, LENDER, lender);
                put(v.lendRows, v.lends, HOLDER, holder);
                put(v.lendRows, v.lends, LENT_AT, hour);
                v.lends++;
            }
        }

        private void readJob(Valley v) {
            open(v.jobs, MOST_JOBS);
            skip("from");
            int first = number(0, v.hours - 1, 0);
            skip("to");
            int last = number(first, v.hours - 1, 0);
            skip("pays");
            int pays = number(1, MOST_PAY, 0);
            skipSign();
            if (fault == 0) {
                put(v.jobRows, v.jobs, FIRST_HOUR, first);
                put(v.jobRows, v.jobs, LAST_HOUR, last);
                put(v.jobRows, v.jobs, PAYS, pays);
                v.jobs++;
            }
        }

        private void blame(int code) {
            if (fault == 0) {
                fault = code;
                place = tape.start;
            }
        }

        private boolean skipsIf(String word) {
            if (fault != 0 || !tape.isWord(word)) {
                return false;
            }
            tape.step();
            return true;
        }

        private void skip(String word) {
            if (!tape.isWord(word)) {
                blame(MISPLACED);
            }
            if (fault == 0) {
                tape.step();
            }
        }

        /** The word that opens a line has been looked at. */
        private void open(int already, int limit) {
            if (already >= limit) {
                blame(TOO_MANY);
            }
            if (fault == 0) {
                tape.step();
            }
        }

        private void skipSign() {
            if (tape.kind != Tape.SIGN) {
                blame(MISPLACED);
            }
            if (fault == 0) {
                tape.step();
            }
        }

        /** A number of its bounds that isn't one of those ruled out (as bits); 0 behind a fault. */
        private int number(int least, int most, int ruledOut) {
            if (tape.kind != Tape.NUMBER) {
                blame(MISPLACED);
            }
            if (fault != 0) {
                return 0;
            }
            int value = tape.number();
            if (value < least || value > most || has(ruledOut, value)) {
                blame(OUT_OF_BOUNDS);
                return 0;
            }
            tape.step();
            return value;
        }
    }

    /** What a text tells (I), and what was said. Without lines there is no valley. */
    private static final class Valley {
        int lines;
        int pairs;
        int hours;
        int odds;
        int wants;
        int lends;
        int jobs;
        int sayings;
        final int[][] wantRows = new int[MOST_WANTS][WANT_CELLS];
        final int[][] lendRows = new int[MOST_LENDS][LEND_CELLS];
        final int[][] jobRows = new int[MOST_JOBS][JOB_CELLS];
        /** Options in the order in which they were said, for undo. */
        final int[] order = new int[MOST_WANTS];

        void clear() {
            lines = 0;
            pairs = 0;
            hours = 0;
            odds = 0;
            wants = 0;
            lends = 0;
            jobs = 0;
            sayings = 0;
        }

        void become(Valley other) {
            lines = other.lines;
            pairs = other.pairs;
            hours = other.hours;
            odds = other.odds;
            wants = other.wants;
            lends = other.lends;
            jobs = other.jobs;
            sayings = other.sayings;
            copyRows(other.wantRows, wantRows);
            copyRows(other.lendRows, lendRows);
            copyRows(other.jobRows, jobRows);
            for (int i = 0; i < order.length; i++) {
                order[i] = at(other.order, i);
            }
        }

        int persons() {
            return 2 * pairs;
        }

        int lentHours(int pair) {
            int found = 0;
            for (int lend = 0; lend < lends; lend++) {
                if (cell(lendRows, lend, LENDER) / 2 == pair) {
                    found |= 1 << cell(lendRows, lend, LENT_AT);
                }
            }
            return found;
        }

        /** Who holds the voice of a pair; NONE: it is at home. */
        int holderOf(int pair, int hour) {
            for (int lend = 0; lend < lends; lend++) {
                if (cell(lendRows, lend, LENDER) / 2 == pair && cell(lendRows, lend, LENT_AT) == hour) {
                    return cell(lendRows, lend, HOLDER);
                }
            }
            return NONE;
        }

        int heldBy(int person, int hour) {
            int found = 0;
            for (int lend = 0; lend < lends; lend++) {
                if (cell(lendRows, lend, HOLDER) == person && cell(lendRows, lend, LENT_AT) == hour) {
                    found++;
                }
            }
            return found;
        }

        /** The least pair of the ring that a pair is in; NONE: it is in none. */
        int leastOfRing(int pair, int hour) {
            int least = pair;
            int now = pair;
            for (int step = 0; step < pairs; step++) {
                int holder = holderOf(now, hour);
                if (holder == NONE) {
                    return NONE;
                }
                now = holder / 2;
                least = Math.min(least, now);
                if (now == pair) {
                    return least;
                }
            }
            return NONE;
        }

        /** Of a person's wants of an hour; 0 without. */
        int greatestWorth(int person, int hour) {
            int greatest = 0;
            for (int want = 0; want < wants; want++) {
                if (cell(wantRows, want, PERSON) == person && cell(wantRows, want, HOUR) == hour) {
                    greatest = Math.max(greatest, cell(wantRows, want, WORTH));
                }
            }
            return greatest;
        }

        int wantedHours(int person) {
            int found = 0;
            for (int want = 0; want < wants; want++) {
                if (cell(wantRows, want, PERSON) == person) {
                    found |= 1 << cell(wantRows, want, HOUR);
                }
            }
            return found;
        }

        int jobHours(int job) {
            int first = cell(jobRows, job, FIRST_HOUR);
            int last = cell(jobRows, job, LAST_HOUR);
            return (1 << (last + 1)) - (1 << first);
        }

        int worthOf(int set) {
            int sum = 0;
            for (int want = 0; want < wants; want++) {
                if (has(set, want)) {
                    sum += cell(wantRows, want, WORTH);
                }
            }
            return sum;
        }

        int saidOptions() {
            int found = 0;
            for (int i = 0; i < sayings; i++) {
                found |= 1 << at(order, i);
            }
            return found;
        }

        void addSaid(int option) {
            if (sayings >= 0 && sayings < order.length) {
                order[sayings] = option;
                sayings++;
            }
        }
    }

    /** Who may speak and who share by hours, and which options can be said and clash (II). */
    private static final class Table {
        final int[] mayHours = new int[MOST_PERSONS];
        final int[] homeHours = new int[MOST_PAIRS];
        final int[] shareHours = new int[MOST_PAIRS];
        /** NONE: there is no such hour, or the want isn't late. */
        final int[] optionHour = new int[OPTIONS];
        final int[] clashing = new int[OPTIONS];
        int sayable;

        /** As if one lend were not there (NONE: all are). */
        void lay(Valley v, int omitted) {
            layVoices(v, omitted);
            layOptions(v);
            for (int option = 0; option < OPTIONS; option++) {
                clashing[option] = clashesOf(v, option);
            }
        }

        private void layVoices(Valley v, int omitted) {
            int all = (1 << v.hours) - 1;
            for (int person = 0; person < mayHours.length; person++) {
                mayHours[person] = 0;
            }
            for (int pair = 0; pair < MOST_PAIRS; pair++) {
                homeHours[pair] = pair < v.pairs ? all : 0;
                shareHours[pair] = homeHours[pair];
            }
            for (int lend = 0; lend < v.lends; lend++) {
                if (lend != omitted) {
                    layLend(v, lend);
                }
            }
            for (int person = 0; person < mayHours.length; person++) {
                mayHours[person] |= at(homeHours, person / 2);
            }
        }

        private void layLend(Valley v, int lend) {
            int bit = 1 << cell(v.lendRows, lend, LENT_AT);
            int from = cell(v.lendRows, lend, LENDER) / 2;
            int holder = cell(v.lendRows, lend, HOLDER);
            int to = holder / 2;
            if (from >= 0 && from < MOST_PAIRS && holder >= 0 && holder < MOST_PERSONS) {
                homeHours[from] &= ~bit;
                shareHours[to] &= ~bit;
                mayHours[holder] |= bit;
            }
        }

        private void layOptions(Valley v) {
            sayable = 0;
            for (int option = 0; option < OPTIONS; option++) {
                int want = option / 2;
                int late = option % 2;
                int hour = cell(v.wantRows, want, HOUR) + late;
                boolean there = want < v.wants && hour < v.hours
                        && (late == 0 || cell(v.wantRows, want, LATE) == 1);
                optionHour[option] = there ? hour : NONE;
                if (there && mayAt(cell(v.wantRows, want, PERSON), hour)) {
                    sayable |= 1 << option;
                }
            }
        }

        private int clashesOf(Valley v, int option) {
            int found = 0;
            for (int other = 0; other < OPTIONS; other++) {
                if (other / 2 != option / 2 && collide(v, option, other)) {
                    found |= 1 << other;
                }
            }
            return found;
        }

        private boolean collide(Valley v, int option, int other) {
            int hour = at(optionHour, option);
            if (hour == NONE || hour != at(optionHour, other)) {
                return false;
            }
            int person = cell(v.wantRows, option / 2, PERSON);
            int rival = cell(v.wantRows, other / 2, PERSON);
            boolean whispers = cell(v.wantRows, option / 2, WHISPER) == 1
                    && cell(v.wantRows, other / 2, WHISPER) == 1;
            return person == rival
                    || person / 2 == rival / 2 && shareAt(person / 2, hour) && !whispers
                    || cell(v.wantRows, option / 2, ASKED) == rival
                    || cell(v.wantRows, other / 2, ASKED) == person;
        }

        boolean mayAt(int person, int hour) {
            return has(at(mayHours, person), hour);
        }

        boolean shareAt(int pair, int hour) {
            return has(at(shareHours, pair), hour);
        }

        int speakersAt(int hour) {
            int found = 0;
            for (int person = 0; person < MOST_PERSONS; person++) {
                if (mayAt(person, hour)) {
                    found |= 1 << person;
                }
            }
            return found;
        }

        int optionsAt(int hour) {
            int found = 0;
            for (int option = 0; option < OPTIONS; option++) {
                if (at(optionHour, option) == hour) {
                    found |= 1 << option;
                }
            }
            return found;
        }

        /** Whether an option can be said behind those said: neither its want nor a clash is among them. */
        boolean admits(int option, int said) {
            return has(sayable, option)
                    && (said & (3 << (option / 2 * 2))) == 0
                    && (said & at(clashing, option)) == 0;
        }
    }

    /** The greatest sum of weights over options that don't clash, by branch and bound. */
    private static final class Search {
        int wants;
        final int[] weight = new int[MOST_WANTS];
        /** What all wants from one on would add together: no plan adds more. */
        final int[] bound = new int[MOST_WANTS + 1];
        private int best;

        void weighWorth(Valley v) {
            wants = v.wants;
            for (int want = 0; want < weight.length; want++) {
                weight[want] = cell(v.wantRows, want, WORTH);
            }
        }

        void weighOne(Valley v) {
            wants = v.wants;
            for (int want = 0; want < weight.length; want++) {
                weight[want] = 1;
            }
        }

        int bestOf(Table t, int free) {
            layBounds(free);
            best = 0;
            seek(this, t, 0, free, 0);
            return best;
        }

        private void layBounds(int free) {
            int sum = 0;
            for (int want = bound.length - 1; want >= 0; want--) {
                if (((free >> (2 * want)) & 3) != 0) {
                    sum += at(weight, want);
                }
                bound[want] = sum;
            }
        }

        private static void seek(Search s, Table t, int want, int free, int sum) {
            s.best = Math.max(s.best, sum);
            if (want >= s.wants || sum + at(s.bound, want) <= s.best) {
                return;
            }
            for (int option = 2 * want; option <= 2 * want + 1; option++) {
                if (has(free, option)) {
                    seek(s, t, want + 1, free & ~at(t.clashing, option), sum + at(s.weight, want));
                }
            }
            seek(s, t, want + 1, free, sum);
        }
    }

    /** All plans of the greatest worth (III). */
    private static final class Plans {
        boolean fresh;
        int most;
        int found;
        int always;
        final int[] first = new int[MOST_WANTS];
        private final int[] now = new int[MOST_WANTS];

        void find(Search s, Table t, int greatest) {
            most = greatest;
            found = 0;
            always = (1 << s.wants) - 1;
            gather(this, s, t, 0, t.sayable, 0);
            fresh = true;
        }

        /** Rows are tried from the least on, so the first found is the least. */
        private static void gather(Plans p, Search s, Table t, int want, int free, int sum) {
            if (sum + at(s.bound, want) < p.most) {
                return;
            }
            if (want < 0 || want >= s.wants || want >= p.now.length) {
                p.keep(s.wants);
                return;
            }
            p.now[want] = 0;
            gather(p, s, t, want + 1, free, sum);
            for (int late = 0; late <= 1; late++) {
                int option = 2 * want + late;
                if (has(free, option)) {
                    p.now[want] = 1 + late;
                    gather(p, s, t, want + 1, free & ~at(t.clashing, option), sum + at(s.weight, want));
                }
            }
        }

        private void keep(int wants) {
            for (int want = 0; want < wants && want < now.length; want++) {
                if (found == 0) {
                    first[want] = now[want];
                }
                if (now[want] == 0) {
                    always &= ~(1 << want);
                }
            }
            found++;
        }

        /** What the first plan says in an hour. */
        int worthAt(Valley v, Table t, int hour) {
            int sum = 0;
            for (int want = 0; want < v.wants; want++) {
                int choice = at(first, want);
                if (choice > 0 && at(t.optionHour, 2 * want + choice - 1) == hour) {
                    sum += cell(v.wantRows, want, WORTH);
                }
            }
            return sum;
        }
    }

    /** Jobs given to persons for the greatest pay (VI). */
    private static final class Hiring {
        private int best;
        private int must;
        private final int[] able = new int[MOST_JOBS];
        private final int[] pay = new int[MOST_JOBS];
        private final int[] bound = new int[MOST_JOBS + 1];
        private final int[] now = new int[MOST_JOBS];
        /** Of the first way of the greatest pay. */
        final int[] first = new int[MOST_JOBS];

        /** One job may be out (nobody can do it), another one a must, for no pay; NONE: there is no way. */
        int bestOf(Valley v, Table t, int out, int mustJob) {
            best = NONE;
            must = mustJob;
            bound[MOST_JOBS] = 0;
            for (int job = MOST_JOBS - 1; job >= 0; job--) {
                boolean there = job < v.jobs && job != out;
                able[job] = there ? ableFor(v, t, job) : 0;
                pay[job] = there && job != must ? cell(v.jobRows, job, PAYS) : 0;
                bound[job] = bound[job + 1] + pay[job];
            }
            seek(this, v, t, 0, 0);
            return best;
        }

        /** The least persons are tried first, nobody last, and only a greater pay takes the place of one found. */
        private static void seek(Hiring h, Valley v, Table t, int job, int sum) {
            if (sum + at(h.bound, job) <= h.best) {
                return;
            }
            if (job < 0 || job >= v.jobs || job >= MOST_JOBS) {
                h.keep(sum);
                return;
            }
            for (int person = 0; person < v.persons(); person++) {
                if (has(h.able[job], person) && h.isFree(v, t, job, person)) {
                    h.now[job] = person;
                    seek(h, v, t, job + 1, sum + h.pay[job]);
                }
            }
            if (job != h.must) {
                h.now[job] = NONE;
                seek(h, v, t, job + 1, sum);
            }
        }

        private void keep(int sum) {
            best = sum;
            for (int job = 0; job < first.length; job++) {
                first[job] = at(now, job);
            }
        }

        /** Whether no job given already keeps a person from one more. */
        private boolean isFree(Valley v, Table t, int job, int person) {
            int span = v.jobHours(job);
            int shared = span & at(t.shareHours, person / 2);
            for (int other = 0; other < job; other++) {
                int busy = v.jobHours(other);
                int doer = at(now, other);
                if (doer == person && (busy & span) != 0
                        || doer == (person ^ 1) && (busy & shared) != 0) {
                    return false;
                }
            }
            return true;
        }
    }

    /** All splits of a pair's hours (IV). */
    private static final class Halves {
        int bestSet;
        int bestFirst;
        int bestSecond;
        int fairest;
        int calmSets;
        int leastGap;
        /** What a twin's sum grows by, when the counted set's lowest hour is this one. */
        private final int[] firstStep = new int[MOST_HOURS];
        private final int[] secondStep = new int[MOST_HOURS];

        /** Hours that neither twin wants change nothing, but each doubles the calm splits. */
        void tally(Valley v, int pair) {
            int allFirst = laySteps(v, 2 * pair, firstStep);
            int allSecond = laySteps(v, 2 * pair + 1, secondStep);
            int wanted = v.wantedHours(2 * pair) | v.wantedHours(2 * pair + 1);
            int wantedCount = Integer.bitCount(wanted);
            int first = 0;
            int second = allSecond;
            int set = 0;
            startFrom(second);
            for (int i = 0; i < (1 << wantedCount); i++) {
                if (i > 0) {
                    set = (set - wanted) & wanted;
                    int lowest = lowestOf(set);
                    first += at(firstStep, lowest);
                    second -= at(secondStep, lowest);
                }
                weigh(set, first, second);
                if (2 * first >= allFirst && 2 * second >= allSecond) {
                    calmSets++;
                }
            }
            calmSets <<= v.hours - wantedCount;
        }

        /**
         * Counting on from one set of wanted hours to the next puts in the new set's lowest hour and
         * takes out all below it. Answers the sum over all hours.
         */
        private static int laySteps(Valley v, int person, int[] steps) {
            int sum = 0;
            for (int hour = 0; hour < steps.length; hour++) {
                int worth = v.greatestWorth(person, hour);
                steps[hour] = worth - sum;
                sum += worth;
            }
            return sum;
        }

        private static int lowestOf(int set) {
            int hour = 0;
            while (hour < MOST_HOURS && !has(set, hour)) {
                hour++;
            }
            return hour;
        }

        /** By the empty set the first twin has nothing. */
        private void startFrom(int second) {
            bestSet = 0;
            bestFirst = 0;
            bestSecond = second;
            fairest = 0;
            calmSets = 0;
            leastGap = second;
        }

        private void weigh(int set, int first, int second) {
            if (first * second > bestFirst * bestSecond) {
                bestSet = set;
                bestFirst = first;
                bestSecond = second;
            }
            fairest = Math.max(fairest, Math.min(first, second));
            leastGap = Math.min(leastGap, Math.abs(first - second));
        }
    }

    /** Who spoke elsewhere, as a slot's row tells, and who may have called (VII). */
    private static final class Calls {
        /** More than any number of hours. */
        private static final int OUT_OF_REACH = 99;

        private final int[] told = new int[MOST_HOURS];
        /** By persons left, as bits: the fewest hours that leave just these. */
        private final int[] fewest = new int[1 << MOST_PERSONS];

        void hear(Slot row) {
            forget();
            for (int i = 0; i + 1 < row.size; i += 2) {
                note(row.small(i), row.small(i + 1));
            }
        }

        private void forget() {
            for (int hour = 0; hour < told.length; hour++) {
                told[hour] = 0;
            }
        }

        private void note(int hour, int person) {
            if (hour >= 0 && hour < told.length) {
                told[hour] |= 1 << person;
            }
        }

        int callersAt(Valley v, Table t, int hour) {
            int elsewhere = at(told, hour);
            int found = 0;
            for (int person = 0; person < v.persons(); person++) {
                boolean twinKeepsIt = t.shareAt(person / 2, hour) && has(elsewhere, person ^ 1);
                if (t.mayAt(person, hour) && !has(elsewhere, person) && !twinKeepsIt) {
                    found |= 1 << person;
                }
            }
            return found;
        }

        int callersInAll(Valley v, Table t, int hourSet) {
            int left = (1 << v.persons()) - 1;
            for (int hour = 0; hour < v.hours; hour++) {
                if (has(hourSet, hour)) {
                    left &= callersAt(v, t, hour);
                }
            }
            return left;
        }

        int fewestHours(Valley v, Table t, int hourSet) {
            int everyone = Math.min((1 << v.persons()) - 1, fewest.length - 1);
            for (int left = 0; left < fewest.length; left++) {
                fewest[left] = left == everyone ? 0 : OUT_OF_REACH;
            }
            for (int hour = 0; hour < v.hours; hour++) {
                if (has(hourSet, hour)) {
                    askHour(everyone, callersAt(v, t, hour));
                }
            }
            return at(fewest, callersInAll(v, t, hourSet));
        }

        /** What is left is never more in number, so upwards no hour is asked twice. */
        private void askHour(int everyone, int callers) {
            for (int left = 0; left <= everyone && left < fewest.length; left++) {
                int rest = left & callers;
                fewest[rest] = Math.min(fewest[rest], fewest[left] + 1);
            }
        }

        /** Whoever reads this row must have heard it, so that its numbers are hours and persons. */
        int liesIn(Slot row, Table t) {
            forget();
            int found = 0;
            for (int i = 0; i + 1 < row.size; i += 2) {
                int hour = row.small(i);
                int person = row.small(i + 1);
                boolean twinHasIt = t.shareAt(person / 2, hour) && has(at(told, hour), person ^ 1);
                if (!t.mayAt(person, hour) || twinHasIt) {
                    found++;
                }
                note(hour, person);
            }
            return found;
        }
    }

    /** A day drawn from a seed (VIII). */
    private static final class Day {
        /** Options, as bits. */
        int said;
        /** Wants, as bits. */
        int tried;

        void pass(Valley v, Table t, long seed) {
            long x = seed;
            said = 0;
            tried = 0;
            for (int want = 0; want < v.wants; want++) {
                x = (1103515245L * x + 12345L) % 2147483648L;
                if (x / 65536L % 100L < v.odds) {
                    tried |= 1 << want;
                    if (t.admits(2 * want, said)) {
                        said |= 1 << (2 * want);
                    }
                }
            }
        }
    }

    /** A row of numbers of one width, or nothing. */
    private static final class Slot {
        int width;
        /** NONE: it has nothing. */
        int size = NONE;
        final long[] numbers = new long[MOST_NUMBERS];

        boolean isNothing() {
            return size < 0;
        }

        void begin(int newWidth, int n) {
            width = newWidth;
            size = Math.min(n, numbers.length);
            for (int i = 0; i < numbers.length; i++) {
                numbers[i] = 0;
            }
        }

        long cut(long v) {
            switch (width) {
                case 0: return (byte) v;
                case 1: return (short) v;
                case 2: return (int) v;
                default: return v;
            }
        }

        boolean holdsPart(int from, int n) {
            return from >= 0 && n >= 0 && from <= size - n;
        }

        /** A number, or NONE for one that can be no person, hour or want. */
        int small(int i) {
            if (i < 0 || i >= numbers.length || numbers[i] < 0 || numbers[i] > MOST_PAY) {
                return NONE;
            }
            return (int) numbers[i];
        }
    }
}
