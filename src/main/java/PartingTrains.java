import java.util.Arrays;
import java.util.NoSuchElementException;

/** Trains that part in the morning and join in the evening, over a land told as a text. */
public final class PartingTrains {
    public static final int NONE = -1;

    private static final int MOST_PLACES = 12;
    private static final int MOST_PORTIONS = 7;
    private static final int MOST_SETS = 1 << MOST_PORTIONS;
    private static final int MOST_ENGINES = 8;
    private static final int MOST_WANTS = 12;
    private static final int MOST_TRAINS = 4;
    private static final int MOST_JOBS = 14;
    private static final int MOST_IMAGES = 3;
    private static final int MOST_CLAUSES = 40;
    private static final int MOST_BYTES = 500;
    private static final int FEED_BYTES = 20;
    // Each portion halts at each place at most once, alone or in a row.
    private static final int MOST_HALTS = MOST_PLACES * MOST_PORTIONS;

    private static final int LAST_MINUTE = 1439;
    private static final int LAST_JOB_MINUTE = 2879;
    private static final int MOST_WAIT = 60;
    private static final int MOST_LATE = 240;
    private static final int MOST_DAYS = 200;
    private static final int WEEK = 7;
    private static final int EVERY_DAY = 127;
    private static final int EVENING_MINUTE = 1080;
    private static final int NO_GROUPING = -2;

    private static final int BAD_SIGN = 1;
    private static final int BAD_NUMBER = 2;
    private static final int TOO_MANY = 3;

    private static final int TOO_LONG = 300;
    private static final int SHUT_IN = 200;
    private static final int NO_FORK = 400;
    private static final int NO_ENGINE = 100;

    private final byte[] tape;
    private int taped;
    private int faultAt;
    private final Reader reader;
    private final Land land;
    private final Tree tree;
    private final Plan plan;
    private final Plan[] images;
    private int imageCount;
    private final Orders orders;
    private final Walk walk;
    private final Judge judge;
    private final Grouping grouping;
    private final Evening evening;
    private final Roster roster;
    private final int[] spareRow;

    public PartingTrains() {
        tape = new byte[MOST_BYTES];
        taped = 0;
        faultAt = NONE;
        reader = new Reader(tape);
        land = new Land();
        tree = new Tree(land);
        plan = new Plan();
        images = new Plan[MOST_IMAGES];
        for (int i = 0; i < MOST_IMAGES; i++) {
            images[i] = new Plan();
        }
        imageCount = 0;
        orders = new Orders(land, tree);
        walk = new Walk(land, tree);
        judge = new Judge(land, tree, plan, walk);
        grouping = new Grouping(land, tree, plan, orders, walk);
        evening = new Evening(land, tree, plan);
        roster = new Roster(land, tree, plan);
        spareRow = new int[MOST_PORTIONS];
    }

    public int feed(int a, int b, int c, int d, int e) {
        if (taped + FEED_BYTES > MOST_BYTES) {
            return NONE;
        }
        tapeNumber(a);
        tapeNumber(b);
        tapeNumber(c);
        tapeNumber(d);
        tapeNumber(e);
        return taped;
    }

    private void tapeNumber(int number) {
        for (int shift = 24; shift >= 0; shift -= 8) {
            tape[taped] = (byte) (number >>> shift);
            taped++;
        }
    }

    public int land(int n) throws IllegalArgumentException {
        if (n < 0 || n > taped) {
            throw new IllegalArgumentException("no such length of the tape");
        }
        taped = 0;
        int fault = reader.read(n);
        faultAt = reader.faultAt;
        if (fault != 0) {
            return fault - 10;
        }
        land.copyFrom(reader.draft);
        tree.draw();
        plan.begin();
        imageCount = 0;
        grouping.forgetLand();
        return land.places;
    }

    public int fault() {
        return faultAt;
    }

    public int told(int what) throws IllegalArgumentException {
        switch (what) {
            case 0:
                return land.places;
            case 1:
                return land.portions;
            case 2:
                return land.engines;
            case 3:
                return land.wants;
            case 4:
                return Integer.bitCount(land.forkBits());
            case 5:
                return tree.loads[land.allPortions()];
            default:
                throw new IllegalArgumentException("nothing such is told");
        }
    }

    public int way(int place, int other) throws IndexOutOfBoundsException {
        needPlace(place);
        needPlace(other);
        return tree.minutes(place, other);
    }

    public int orders(int bits) throws IllegalArgumentException {
        needSet(bits);
        return orders.howMany(bits);
    }

    public int first(int bits, int k) throws IllegalArgumentException {
        needSet(bits);
        if (k < 0 || k >= Integer.bitCount(bits)) {
            return NONE;
        }
        orders.firstInto(bits, spareRow, 0);
        return spareRow[k];
    }

    public int train(int minute) throws IllegalArgumentException, IllegalStateException {
        if (minute < 0 || minute > LAST_MINUTE) {
            throw new IllegalArgumentException("no such minute");
        }
        if (land.places == 0) {
            throw new IllegalStateException("there is no land");
        }
        if (plan.trains == MOST_TRAINS) {
            return NONE;
        }
        grouping.forgetPlan();
        return plan.addTrain(minute);
    }

    public int put(int train, int portion) throws NoSuchElementException, IllegalArgumentException {
        needTrain(train);
        needPortion(portion);
        if (plan.trainOf[portion] != NONE) {
            return NONE;
        }
        plan.append(train, portion);
        return plan.size[train];
    }

    public int sort(int train) throws NoSuchElementException {
        needTrain(train);
        int from = train * MOST_PORTIONS;
        int size = plan.size[train];
        System.arraycopy(plan.row, from, spareRow, 0, size);
        orders.firstInto(plan.members(train), plan.row, from);
        for (int i = 0; i < size; i++) {
            if (plan.row[from + i] != spareRow[i]) {
                return 1;
            }
        }
        return 0;
    }

    public int clear(int train) throws NoSuchElementException {
        needTrain(train);
        return plan.empty(train);
    }

    public int row(int train, int k) throws NoSuchElementException {
        needTrain(train);
        if (k < 0 || k >= plan.size[train]) {
            return NONE;
        }
        return plan.row[train * MOST_PORTIONS + k];
    }

    public int error(int train) throws NoSuchElementException {
        needTrain(train);
        judge.judgeAll();
        return judge.errors[train];
    }

    public int engine(int portion) throws IllegalArgumentException {
        needPortion(portion);
        judge.judgeAll();
        return judge.engines[portion];
    }

    public int arrives(int portion) throws IllegalArgumentException {
        needPortion(portion);
        judge.judgeAll();
        return judge.arrivals[portion];
    }

    public int worth(int want) throws IllegalArgumentException {
        if (want < NONE || want >= land.wants) {
            throw new IllegalArgumentException("no such want");
        }
        judge.judgeAll();
        return want == NONE ? judge.worthOfAll() : judge.worthOf(want);
    }

    public int best(int portion) throws IllegalArgumentException {
        if (portion != NONE) {
            needPortion(portion);
        }
        if (!grouping.find()) {
            return NO_GROUPING;
        }
        return portion == NONE ? grouping.greatest : grouping.kept[portion];
    }

    public int bound() {
        if (plan.trains == 0) {
            return 0;
        }
        int sum = 0;
        for (int w = 0; w < land.wants; w++) {
            int most = 0;
            for (int t = 0; t < plan.trains; t++) {
                most = Math.max(most, land.fullWorth(w, plan.minute[t]));
            }
            sum += most;
        }
        return sum;
    }

    public int group() {
        if (!grouping.find()) {
            return NO_GROUPING;
        }
        int changed = 0;
        for (int p = 0; p < land.portions; p++) {
            if (plan.trainOf[p] != grouping.kept[p]) {
                changed++;
            }
        }
        putGrouping();
        return changed;
    }

    private void putGrouping() {
        for (int t = 0; t < plan.trains; t++) {
            plan.empty(t);
        }
        for (int p = 0; p < land.portions; p++) {
            plan.append(grouping.kept[p], p);
        }
        for (int t = 0; t < plan.trains; t++) {
            orders.firstInto(plan.members(t), plan.row, t * MOST_PORTIONS);
        }
    }

    public boolean shut(int place, boolean is) throws IndexOutOfBoundsException, IllegalArgumentException {
        needFork(place);
        boolean was = plan.isShut(place);
        if (was != is) {
            plan.shutForks ^= 1 << place;
            grouping.forgetPlan();
        }
        return was;
    }

    public int evening(int portion, int minute) throws IllegalArgumentException {
        needPortion(portion);
        if (minute < 0 || minute > LAST_MINUTE) {
            throw new IllegalArgumentException("no such minute");
        }
        int was = plan.start[portion];
        plan.start[portion] = minute;
        return was;
    }

    public int hold(int place, int minutes) throws IndexOutOfBoundsException, IllegalArgumentException {
        needFork(place);
        if (minutes < 0 || minutes > MOST_WAIT) {
            throw new IllegalArgumentException("no such wait");
        }
        int was = plan.wait[place];
        plan.wait[place] = minutes;
        return was;
    }

    public int reaches(int portion, int late) throws IllegalArgumentException {
        needPortion(portion);
        needSet(late);
        evening.play(late);
        return evening.reachOf(portion);
    }

    public int rows(int late) throws IllegalArgumentException {
        needSet(late);
        evening.play(late);
        return evening.rowsAtRoot();
    }

    public int harm(int late) throws IllegalArgumentException {
        needSet(late);
        evening.play(late);
        return evening.harmDone();
    }

    public long mean() {
        return evening.meanHarm();
    }

    public int bestWait(int place) throws IndexOutOfBoundsException, IllegalArgumentException {
        needFork(place);
        return evening.bestWaitAt(place);
    }

    public int settle() {
        int changed = 0;
        for (int place = land.places - 1; place >= 0; place--) {
            if (land.isFork(place)) {
                int wait = evening.bestWaitAt(place);
                if (wait != plan.wait[place]) {
                    plan.wait[place] = wait;
                    changed++;
                }
            }
        }
        return changed;
    }

    public int spoil(int portion, int minutes, int what) throws IllegalArgumentException {
        needPortion(portion);
        if (minutes < 0 || minutes > MOST_LATE) {
            throw new IllegalArgumentException("no such lateness");
        }
        if (what != 0 && what != 1) {
            throw new IllegalArgumentException("nothing such is spoilt");
        }
        return evening.spoiltBy(portion, minutes, what == 1);
    }

    public boolean alike(int train) throws NoSuchElementException {
        needTrain(train);
        if (plan.size[train] == 0) {
            return false;
        }
        evening.play(0);
        return evening.bringsTurned(train);
    }

    public int wrong(int train, int s) throws NoSuchElementException, IllegalArgumentException {
        needTrain(train);
        if (s < 0 || s > 100) {
            throw new IllegalArgumentException("no such signs");
        }
        int members = plan.members(train);
        int carriages = tree.loads[members];
        if (carriages == 0) {
            return 0;
        }
        long sum = 0;
        for (int p = 0; p < land.portions; p++) {
            if ((members >> p & 1) != 0) {
                sum += (long) land.peopleTo(1 << land.end[p]) * (100 - s) * carriageMinutes(members, p);
            }
        }
        return (int) (sum / (100L * carriages));
    }

    private int carriageMinutes(int members, int portion) {
        int sum = 0;
        for (int q = 0; q < land.portions; q++) {
            if ((members >> q & 1) != 0) {
                sum += land.carriages[q] * tree.minutes(land.end[portion], land.end[q]);
            }
        }
        return sum;
    }

    public int job(int from, int minute, int to, int end) throws IndexOutOfBoundsException, IllegalArgumentException {
        needPlace(from);
        needPlace(to);
        if (minute < 0 || minute > LAST_JOB_MINUTE || end <= minute || end > LAST_JOB_MINUTE) {
            throw new IllegalArgumentException("no such minutes");
        }
        if (end - minute < tree.minutes(from, to)) {
            throw new IllegalArgumentException("the way is longer");
        }
        if (plan.jobs == MOST_JOBS) {
            return NONE;
        }
        return plan.addJob(from, minute, to, end);
    }

    public boolean behind(int job, int other) throws IllegalArgumentException {
        needJob(job);
        needJob(other);
        return roster.canFollow(job, other);
    }

    public int fewest() {
        return roster.fewestEngines();
    }

    public int proof() {
        return roster.proofBits();
    }

    public int light(int k, int what) throws IllegalArgumentException {
        if (k < 1 || k > 3) {
            throw new IllegalArgumentException("no such number of places");
        }
        if (what != 0 && what != 1) {
            throw new IllegalArgumentException("nothing such of light engines");
        }
        if (land.places < k) {
            return NONE;
        }
        roster.findLight(k);
        return what == 0 ? roster.leastWays : roster.leastBits;
    }

    public int days(int portion, int bits) throws IllegalArgumentException {
        needPortion(portion);
        if (bits < 0 || bits > EVERY_DAY) {
            throw new IllegalArgumentException("no such days");
        }
        int was = plan.days[portion];
        plan.days[portion] = bits;
        return was;
    }

    public int cuts(int train, int day) throws NoSuchElementException, IllegalArgumentException {
        needTrain(train);
        if (day < 0 || day >= WEEK) {
            throw new IllegalArgumentException("no such day");
        }
        return walk.cutsOf(plan.rowOfDay(train, day, spareRow), spareRow);
    }

    public int why(int train, int place) throws NoSuchElementException, IndexOutOfBoundsException {
        needTrain(train);
        needPlace(place);
        walk.load(plan.row, train * MOST_PORTIONS, plan.size[train], 0);
        return land.peopleTo(walk.parted(place));
    }

    public int day(int seed) {
        return evening.harmOfDays(seed, 1);
    }

    public int run(int seed, int many) throws IllegalArgumentException {
        if (many < 1 || many > MOST_DAYS) {
            throw new IllegalArgumentException("no such number of days");
        }
        return evening.harmOfDays(seed, many);
    }

    public int image() {
        if (imageCount >= MOST_IMAGES) {
            return NONE;
        }
        images[imageCount].copyFrom(plan);
        imageCount++;
        return imageCount;
    }

    public int restore() {
        if (imageCount <= 0) {
            return NONE;
        }
        imageCount--;
        plan.copyFrom(images[imageCount]);
        grouping.forgetPlan();
        return imageCount;
    }

    public int count(int what) {
        switch (what) {
            case 0:
                return plan.trains;
            case 1:
                return plan.portionsPut();
            case 2:
                return plan.jobs;
            case 3:
                return Integer.bitCount(plan.shutForks);
            case 4:
                return imageCount;
            case 5:
                return taped;
            default:
                return NONE;
        }
    }

    private void needPlace(int place) {
        if (!land.hasPlace(place)) {
            throw new IndexOutOfBoundsException("no such place");
        }
    }

    private void needFork(int place) {
        needPlace(place);
        if (!land.isFork(place)) {
            throw new IllegalArgumentException("no fork");
        }
    }

    private void needPortion(int portion) {
        if (portion < 0 || portion >= land.portions) {
            throw new IllegalArgumentException("no such portion");
        }
    }

    private void needSet(int bits) {
        if (bits < 0 || bits > land.allPortions()) {
            throw new IllegalArgumentException("bits of no portions");
        }
    }

    private void needTrain(int train) {
        if (train < 0 || train >= plan.trains) {
            throw new NoSuchElementException("no such train");
        }
    }

    private void needJob(int job) {
        if (job < 0 || job >= plan.jobs) {
            throw new IllegalArgumentException("no such job");
        }
    }

    /** What a text tells: places, forks, portions, engines, wants. Without places it is no land. */
    private static final class Land {
        int places;
        final int[] up = new int[MOST_PLACES];
        final int[] toUp = new int[MOST_PLACES];
        final int[] platform = new int[MOST_PLACES];
        // Minutes to part; 0 where there is no fork.
        final int[] parting = new int[MOST_PLACES];
        final int[] joining = new int[MOST_PLACES];
        int portions;
        final int[] end = new int[MOST_PORTIONS];
        final int[] carriages = new int[MOST_PORTIONS];
        final int[] chance = new int[MOST_PORTIONS];
        final int[] delay = new int[MOST_PORTIONS];
        int engines;
        final int[] engineAt = new int[MOST_ENGINES];
        final int[] pulls = new int[MOST_ENGINES];
        int wants;
        final int[] wantTo = new int[MOST_WANTS];
        final int[] people = new int[MOST_WANTS];
        final int[] wantMinute = new int[MOST_WANTS];

        void forget() {
            places = 0;
            portions = 0;
            engines = 0;
            wants = 0;
            Arrays.fill(parting, 0);
            Arrays.fill(joining, 0);
            Arrays.fill(chance, 0);
            Arrays.fill(delay, 0);
        }

        void copyFrom(Land other) {
            places = other.places;
            portions = other.portions;
            engines = other.engines;
            wants = other.wants;
            System.arraycopy(other.up, 0, up, 0, MOST_PLACES);
            System.arraycopy(other.toUp, 0, toUp, 0, MOST_PLACES);
            System.arraycopy(other.platform, 0, platform, 0, MOST_PLACES);
            System.arraycopy(other.parting, 0, parting, 0, MOST_PLACES);
            System.arraycopy(other.joining, 0, joining, 0, MOST_PLACES);
            System.arraycopy(other.end, 0, end, 0, MOST_PORTIONS);
            System.arraycopy(other.carriages, 0, carriages, 0, MOST_PORTIONS);
            System.arraycopy(other.chance, 0, chance, 0, MOST_PORTIONS);
            System.arraycopy(other.delay, 0, delay, 0, MOST_PORTIONS);
            System.arraycopy(other.engineAt, 0, engineAt, 0, MOST_ENGINES);
            System.arraycopy(other.pulls, 0, pulls, 0, MOST_ENGINES);
            System.arraycopy(other.wantTo, 0, wantTo, 0, MOST_WANTS);
            System.arraycopy(other.people, 0, people, 0, MOST_WANTS);
            System.arraycopy(other.wantMinute, 0, wantMinute, 0, MOST_WANTS);
        }

        boolean hasPlace(int place) {
            return place >= 0 && place < places;
        }

        boolean isFork(int place) {
            return parting[place] > 0;
        }

        int forkBits() {
            int bits = 0;
            for (int place = 0; place < places; place++) {
                if (isFork(place)) {
                    bits |= 1 << place;
                }
            }
            return bits;
        }

        int allPortions() {
            return (1 << portions) - 1;
        }

        int fullWorth(int want, int minute) {
            int far = Math.min(90, Math.abs(minute - wantMinute[want]) / 10);
            return people[want] * (100 - far);
        }

        /** The least engine at a place that is not taken and pulls the carriages. */
        int freeEngine(int place, int load, int taken) {
            for (int e = 0; e < engines; e++) {
                if (engineAt[e] == place && (taken >> e & 1) == 0 && pulls[e] >= load) {
                    return e;
                }
            }
            return NONE;
        }

        int peopleTo(int placeBits) {
            int sum = 0;
            for (int w = 0; w < wants; w++) {
                if ((placeBits >> wantTo[w] & 1) != 0) {
                    sum += people[w];
                }
            }
            return sum;
        }
    }

    /** Reads a text from the tape into a draft of a land, up to its first fault. */
    private static final class Reader {
        final Land draft = new Land();
        final byte[] text;
        int length;
        int at;
        int wordAt;
        int fault;
        int faultAt;

        Reader(byte[] tape) {
            text = tape;
            faultAt = NONE;
        }

        /** The kind of the first fault, 0 if there is none. */
        int read(int n) {
            length = n;
            at = 0;
            fault = 0;
            faultAt = NONE;
            draft.forget();
            readRoot();
            skipBlanks();
            for (int clauses = 1; fault == 0 && at < length && clauses <= MOST_CLAUSES; clauses++) {
                readClause(clauses == MOST_CLAUSES);
                skipBlanks();
            }
            return fault;
        }

        void blame(int kind, int place) {
            if (fault == 0) {
                fault = kind;
                faultAt = place;
            }
        }

        void skipBlanks() {
            while (at < length && text[at] == ' ') {
                at++;
            }
        }

        void readWord() {
            skipBlanks();
            wordAt = at;
            while (at < length && text[at] >= 'a' && text[at] <= 'z') {
                at++;
            }
        }

        boolean isWord(String word) {
            if (at - wordAt != word.length()) {
                return false;
            }
            for (int i = 0; i < word.length(); i++) {
                if (text[wordAt + i] != word.charAt(i)) {
                    return false;
                }
            }
            return true;
        }

        /** The number that stands next; the least one allowed, if there is a fault. */
        int readNumber(int least, int most) {
            if (fault != 0) {
                return least;
            }
            skipBlanks();
            int start = at;
            int value = 0;
            while (at < length && text[at] >= '0' && text[at] <= '9') {
                // Held down so that no row of digits wraps round into what is allowed.
                value = Math.min(value * 10 + text[at] - '0', 1_000_000);
                at++;
            }
            if (at == start) {
                blame(BAD_SIGN, start);
                return least;
            }
            if (value < least || value > most) {
                blame(BAD_NUMBER, start);
                return least;
            }
            return value;
        }

        /** Whether the clause ends here, and all of it was well. */
        boolean endsWell() {
            if (fault != 0) {
                return false;
            }
            skipBlanks();
            if (at >= length || text[at] != ';') {
                blame(BAD_SIGN, at);
                return false;
            }
            at++;
            return true;
        }

        void readRoot() {
            readWord();
            if (!isWord("root")) {
                blame(BAD_SIGN, wordAt);
                return;
            }
            int platform = readNumber(1, 60);
            if (endsWell()) {
                draft.platform[0] = platform;
                draft.up[0] = 0;
                draft.toUp[0] = 0;
                draft.places = 1;
            }
        }

        void readClause(boolean full) {
            readWord();
            if (isWord("place")) {
                readPlace(full || draft.places >= MOST_PLACES);
            } else if (isWord("fork")) {
                readFork(full);
            } else if (isWord("portion")) {
                readPortion(full || draft.portions >= MOST_PORTIONS);
            } else if (isWord("late")) {
                readLate(full);
            } else if (isWord("engine")) {
                readEngine(full || draft.engines >= MOST_ENGINES);
            } else if (isWord("want")) {
                readWant(full || draft.wants >= MOST_WANTS);
            } else {
                blame(BAD_SIGN, wordAt);
            }
        }

        void refuseIf(boolean full) {
            if (full) {
                blame(TOO_MANY, wordAt);
            }
        }

        void readPlace(boolean full) {
            refuseIf(full);
            int from = readNumber(0, draft.places - 1);
            int minutes = readNumber(1, 240);
            int platform = readNumber(1, 60);
            if (endsWell()) {
                int place = draft.places;
                draft.up[place] = from;
                draft.toUp[place] = minutes;
                draft.platform[place] = platform;
                draft.places = place + 1;
            }
        }

        void readFork(boolean full) {
            refuseIf(full);
            int place = readNumber(0, draft.places - 1);
            int parting = readNumber(1, 60);
            int joining = readNumber(1, 60);
            if (endsWell()) {
                draft.parting[place] = parting;
                draft.joining[place] = joining;
            }
        }

        void readPortion(boolean full) {
            refuseIf(full);
            int end = readNumber(1, draft.places - 1);
            int carriages = readNumber(1, 15);
            if (endsWell()) {
                draft.end[draft.portions] = end;
                draft.carriages[draft.portions] = carriages;
                draft.portions++;
            }
        }

        void readLate(boolean full) {
            refuseIf(full);
            int portion = readNumber(0, draft.portions - 1);
            int chance = readNumber(0, 19);
            int delay = readNumber(1, 120);
            if (endsWell()) {
                draft.chance[portion] = chance;
                draft.delay[portion] = delay;
            }
        }

        void readEngine(boolean full) {
            refuseIf(full);
            int place = readNumber(0, draft.places - 1);
            int pulls = readNumber(1, 60);
            if (endsWell()) {
                draft.engineAt[draft.engines] = place;
                draft.pulls[draft.engines] = pulls;
                draft.engines++;
            }
        }

        void readWant(boolean full) {
            refuseIf(full);
            int place = readNumber(1, draft.places - 1);
            int people = readNumber(1, 999);
            int minute = readNumber(0, LAST_MINUTE);
            if (endsWell()) {
                draft.wantTo[draft.wants] = place;
                draft.people[draft.wants] = people;
                draft.wantMinute[draft.wants] = minute;
                draft.wants++;
            }
        }
    }

    /** What follows from a land alone: ways, who goes by where, carriages of sets. */
    private static final class Tree {
        final Land land;
        final int[] ways = new int[MOST_PLACES * MOST_PLACES];
        // From a place on the way to an end: the next place, or the place itself at the end.
        final int[] steps = new int[MOST_PLACES * MOST_PLACES];
        // The places from the root to a place, both with it, as bits.
        final int[] path = new int[MOST_PLACES];
        // The portions that come to a place, and those that end there, as bits.
        final int[] coming = new int[MOST_PLACES];
        final int[] ending = new int[MOST_PLACES];
        final int[] loads = new int[MOST_SETS];

        Tree(Land land) {
            this.land = land;
        }

        void draw() {
            path[0] = 1;
            ways[0] = 0;
            for (int place = 1; place < land.places; place++) {
                path[place] = path[land.up[place]] | 1 << place;
                drawWays(place);
            }
            for (int place = 0; place < land.places; place++) {
                drawSteps(place);
                countPortions(place);
            }
            for (int p = 0; p < land.portions; p++) {
                int bit = 1 << p;
                for (int set = 0; set < bit; set++) {
                    loads[set | bit] = loads[set] + land.carriages[p];
                }
            }
        }

        void drawWays(int place) {
            int up = land.up[place];
            for (int other = 0; other < place; other++) {
                int minutes = ways[up * MOST_PLACES + other] + land.toUp[place];
                ways[place * MOST_PLACES + other] = minutes;
                ways[other * MOST_PLACES + place] = minutes;
            }
            ways[place * MOST_PLACES + place] = 0;
        }

        void drawSteps(int end) {
            int step = end;
            steps[end * MOST_PLACES + end] = end;
            for (int i = 0; i < MOST_PLACES && step != 0; i++) {
                steps[land.up[step] * MOST_PLACES + end] = step;
                step = land.up[step];
            }
        }

        void countPortions(int place) {
            coming[place] = 0;
            ending[place] = 0;
            for (int p = 0; p < land.portions; p++) {
                if ((path[land.end[p]] >> place & 1) != 0) {
                    coming[place] |= 1 << p;
                }
                if (land.end[p] == place) {
                    ending[place] |= 1 << p;
                }
            }
        }

        int minutes(int place, int other) {
            return ways[place * MOST_PLACES + other];
        }

        int step(int place, int end) {
            return steps[place * MOST_PLACES + end];
        }

        boolean isServed(int place, int served) {
            return (served >> place & 1) != 0;
        }

        boolean isNearlyServed(int place, int served) {
            // Each way begins at the root, which does not count.
            return (served & path[place] & ~1) != 0;
        }
    }

    /** All that is planned over a land; an image is another one. */
    private static final class Plan {
        int trains;
        final int[] minute = new int[MOST_TRAINS];
        final int[] size = new int[MOST_TRAINS];
        final int[] row = new int[MOST_TRAINS * MOST_PORTIONS];
        final int[] trainOf = new int[MOST_PORTIONS];
        int jobs;
        final int[] jobFrom = new int[MOST_JOBS];
        final int[] jobMinute = new int[MOST_JOBS];
        final int[] jobTo = new int[MOST_JOBS];
        final int[] jobEnd = new int[MOST_JOBS];
        int shutForks;
        final int[] wait = new int[MOST_PLACES];
        final int[] days = new int[MOST_PORTIONS];
        final int[] start = new int[MOST_PORTIONS];

        Plan() {
            begin();
        }

        void begin() {
            trains = 0;
            jobs = 0;
            shutForks = 0;
            Arrays.fill(size, 0);
            Arrays.fill(trainOf, NONE);
            Arrays.fill(wait, 0);
            Arrays.fill(days, EVERY_DAY);
            Arrays.fill(start, EVENING_MINUTE);
        }

        void copyFrom(Plan other) {
            trains = other.trains;
            jobs = other.jobs;
            shutForks = other.shutForks;
            System.arraycopy(other.minute, 0, minute, 0, MOST_TRAINS);
            System.arraycopy(other.size, 0, size, 0, MOST_TRAINS);
            System.arraycopy(other.row, 0, row, 0, MOST_TRAINS * MOST_PORTIONS);
            System.arraycopy(other.trainOf, 0, trainOf, 0, MOST_PORTIONS);
            System.arraycopy(other.jobFrom, 0, jobFrom, 0, MOST_JOBS);
            System.arraycopy(other.jobMinute, 0, jobMinute, 0, MOST_JOBS);
            System.arraycopy(other.jobTo, 0, jobTo, 0, MOST_JOBS);
            System.arraycopy(other.jobEnd, 0, jobEnd, 0, MOST_JOBS);
            System.arraycopy(other.wait, 0, wait, 0, MOST_PLACES);
            System.arraycopy(other.days, 0, days, 0, MOST_PORTIONS);
            System.arraycopy(other.start, 0, start, 0, MOST_PORTIONS);
        }

        int addTrain(int at) {
            minute[trains] = at;
            size[trains] = 0;
            trains++;
            return trains - 1;
        }

        void append(int train, int portion) {
            row[train * MOST_PORTIONS + size[train]] = portion;
            size[train]++;
            trainOf[portion] = train;
        }

        int empty(int train) {
            int were = size[train];
            for (int i = 0; i < were; i++) {
                trainOf[row[train * MOST_PORTIONS + i]] = NONE;
            }
            size[train] = 0;
            return were;
        }

        int members(int train) {
            int bits = 0;
            for (int i = 0; i < size[train]; i++) {
                bits |= 1 << row[train * MOST_PORTIONS + i];
            }
            return bits;
        }

        int portionsPut() {
            int sum = 0;
            for (int t = 0; t < trains; t++) {
                sum += size[t];
            }
            return sum;
        }

        /** How many portions of a train go on a day; they are written to a row. */
        int rowOfDay(int train, int day, int[] into) {
            int many = 0;
            for (int i = 0; i < size[train]; i++) {
                int portion = row[train * MOST_PORTIONS + i];
                if ((days[portion] >> day & 1) != 0) {
                    into[many] = portion;
                    many++;
                }
            }
            return many;
        }

        int addJob(int from, int at, int to, int end) {
            jobFrom[jobs] = from;
            jobMinute[jobs] = at;
            jobTo[jobs] = to;
            jobEnd[jobs] = end;
            jobs++;
            return jobs - 1;
        }

        boolean isShut(int place) {
            return (shutForks >> place & 1) != 0;
        }
    }

    /** The lawful rows of a set: at each place groups in any order, behind them what stays in any order. */
    private static final class Orders {
        final Land land;
        final Tree tree;
        // The first portion of the first row of those that come to a place.
        final int[] head = new int[MOST_PLACES];
        final int[] offset = new int[MOST_PLACES];

        Orders(Land land, Tree tree) {
            this.land = land;
            this.tree = tree;
        }

        int howMany(int set) {
            int ways = 1;
            for (int place = 0; place < land.places; place++) {
                ways *= factorial(Integer.bitCount(set & tree.ending[place]));
                ways *= factorial(groupsAt(place, set));
            }
            return ways;
        }

        int groupsAt(int place, int set) {
            int groups = 0;
            for (int next = place + 1; next < land.places; next++) {
                if (land.up[next] == place && (set & tree.coming[next]) != 0) {
                    groups++;
                }
            }
            return groups;
        }

        int factorial(int n) {
            int product = 1;
            for (int i = 2; i <= n; i++) {
                product *= i;
            }
            return product;
        }

        void firstInto(int set, int[] row, int from) {
            findHeads(set);
            offset[0] = from;
            // A place is nearer to the root than those told behind it, so its offset is known here.
            for (int place = 0; place < land.places; place++) {
                if ((set & tree.coming[place]) != 0) {
                    int at = placeGroups(set, place);
                    writeStays(set & tree.ending[place], row, at);
                }
            }
        }

        void findHeads(int set) {
            for (int place = 0; place < land.places; place++) {
                head[place] = MOST_PORTIONS;
            }
            for (int place = land.places - 1; place >= 0; place--) {
                if (head[place] == MOST_PORTIONS) {
                    head[place] = leastOf(set & tree.ending[place]);
                }
                int up = land.up[place];
                if (place > 0 && head[place] < head[up]) {
                    head[up] = head[place];
                }
            }
        }

        int leastOf(int set) {
            for (int p = 0; p < MOST_PORTIONS; p++) {
                if ((set >> p & 1) != 0) {
                    return p;
                }
            }
            return MOST_PORTIONS;
        }

        /** Gives each group its place in the row, the least head first: where those that stay begin. */
        int placeGroups(int set, int place) {
            int at = offset[place];
            int groups = groupsAt(place, set);
            int last = NONE;
            for (int i = 0; i < groups; i++) {
                int group = groupWithHeadAbove(place, last);
                last = head[group];
                offset[group] = at;
                at += Integer.bitCount(set & tree.coming[group]);
            }
            return at;
        }

        int groupWithHeadAbove(int place, int last) {
            int found = place;
            int least = MOST_PORTIONS;
            for (int next = place + 1; next < land.places; next++) {
                if (land.up[next] == place && head[next] > last && head[next] < least) {
                    least = head[next];
                    found = next;
                }
            }
            return found;
        }

        void writeStays(int stays, int[] row, int from) {
            int at = from;
            for (int p = 0; p < land.portions; p++) {
                if ((stays >> p & 1) != 0) {
                    row[at] = p;
                    at++;
                }
            }
        }
    }

    /** A row on its way from the root, the first group and all behind that ahead of the next one. */
    private static final class Walk {
        final Land land;
        final Tree tree;
        final int[] row = new int[MOST_PORTIONS];
        // Rows that still have to go on: parts of the row that have no portion in common.
        int waiting;
        final int[] placeOf = new int[MOST_PORTIONS];
        final int[] lowOf = new int[MOST_PORTIONS];
        final int[] highOf = new int[MOST_PORTIONS];
        final int[] minuteOf = new int[MOST_PORTIONS];
        final int[] engineOf = new int[MOST_PORTIONS];
        // The row at hand, and its groups; those that stay stand behind the last of them.
        int place;
        int low;
        int high;
        int minute;
        int engine;
        int groups;
        final int[] groupLow = new int[MOST_PORTIONS + 1];
        final int[] groupEngine = new int[MOST_PORTIONS];

        Walk(Land land, Tree tree) {
            this.land = land;
            this.tree = tree;
        }

        void load(int[] from, int offset, int size, int leaving) {
            System.arraycopy(from, offset, row, 0, size);
            waiting = 0;
            if (size > 0) {
                sendTo(0, 0, size, leaving, NONE);
            }
        }

        void sendTo(int next, int from, int to, int coming, int pulledBy) {
            placeOf[waiting] = next;
            lowOf[waiting] = from;
            highOf[waiting] = to;
            minuteOf[waiting] = coming;
            engineOf[waiting] = pulledBy;
            waiting++;
        }

        boolean comes() {
            if (waiting == 0) {
                return false;
            }
            waiting--;
            place = placeOf[waiting];
            low = lowOf[waiting];
            high = highOf[waiting];
            minute = minuteOf[waiting];
            engine = engineOf[waiting];
            return true;
        }

        /** Finds the groups of the row at hand: false, if it is shut in. */
        boolean splits() {
            groups = 0;
            int stays = high;
            int seen = 0;
            int last = NONE;
            for (int i = low; i < high; i++) {
                int step = tree.step(place, land.end[row[i]]);
                if (step != last) {
                    if (last == place || (seen >> step & 1) != 0) {
                        return false;
                    }
                    seen |= 1 << step;
                    last = step;
                    if (step == place) {
                        stays = i;
                    } else {
                        groupLow[groups] = i;
                        groups++;
                    }
                }
            }
            groupLow[groups] = stays;
            return true;
        }

        int cutsHere() {
            return groupLow[groups] < high ? groups : groups - 1;
        }

        int bitsOf(int from, int to) {
            int bits = 0;
            for (int i = from; i < to; i++) {
                bits |= 1 << row[i];
            }
            return bits;
        }

        int loadHere() {
            return tree.loads[bitsOf(low, high)];
        }

        int loadOfGroup(int group) {
            return tree.loads[bitsOf(groupLow[group], groupLow[group + 1])];
        }

        void goOn() {
            int gap = cutsHere() > 0 ? land.parting[place] : 0;
            // The last group first: what is sent last comes first.
            for (int g = groups - 1; g >= 0; g--) {
                int next = tree.step(place, land.end[row[groupLow[g]]]);
                int coming = minute + gap * (g + 1) + land.toUp[next];
                sendTo(next, groupLow[g], groupLow[g + 1], coming, groupEngine[g]);
            }
        }

        int cutsOf(int size, int[] from) {
            load(from, 0, size, 0);
            int sum = 0;
            for (int i = 0; i < MOST_HALTS && comes(); i++) {
                if (!splits()) {
                    return NONE;
                }
                sum += cutsHere();
                goOn();
            }
            return sum;
        }

        /** The places behind one to which the row that is loaded goes on but in its first group; none if it is shut in. */
        int parted(int where) {
            int bits = 0;
            for (int i = 0; i < MOST_HALTS && comes(); i++) {
                if (!splits()) {
                    return 0;
                }
                if (place == where && groups > 0) {
                    bits = placesBehind(groupLow[1], groupLow[groups]);
                }
                goOn();
            }
            return bits;
        }

        int placesBehind(int from, int to) {
            int bits = 0;
            for (int i = from; i < to; i++) {
                bits |= tree.path[land.end[row[i]]];
            }
            return bits & ~tree.path[place];
        }
    }

    /** Judges the trains of the plan, one after the other. */
    private static final class Judge {
        final Land land;
        final Tree tree;
        final Plan plan;
        final Walk walk;
        final int[] errors = new int[MOST_TRAINS];
        final int[] engines = new int[MOST_PORTIONS];
        final int[] arrivals = new int[MOST_PORTIONS];
        int taken;

        Judge(Land land, Tree tree, Plan plan, Walk walk) {
            this.land = land;
            this.tree = tree;
            this.plan = plan;
            this.walk = walk;
        }

        void judgeAll() {
            taken = 0;
            Arrays.fill(engines, NONE);
            Arrays.fill(arrivals, NONE);
            for (int t = 0; t < plan.trains; t++) {
                errors[t] = judgeTrain(t);
                if (errors[t] != 0) {
                    forgetArrivals(t);
                }
            }
        }

        int judgeTrain(int train) {
            walk.load(plan.row, train * MOST_PORTIONS, plan.size[train], plan.minute[train]);
            for (int i = 0; i < MOST_HALTS && walk.comes(); i++) {
                int error = errorHere();
                if (error != 0) {
                    return error + walk.place;
                }
                for (int k = walk.groupLow[walk.groups]; k < walk.high; k++) {
                    arrivals[walk.row[k]] = walk.minute;
                    engines[walk.row[k]] = walk.engine;
                }
                walk.goOn();
            }
            return 0;
        }

        void forgetArrivals(int train) {
            for (int i = 0; i < plan.size[train]; i++) {
                int portion = plan.row[train * MOST_PORTIONS + i];
                arrivals[portion] = NONE;
                engines[portion] = NONE;
            }
        }

        int errorHere() {
            if (walk.loadHere() > land.platform[walk.place]) {
                return TOO_LONG;
            }
            if (!walk.splits()) {
                return SHUT_IN;
            }
            boolean open = land.isFork(walk.place) && !plan.isShut(walk.place);
            if (walk.cutsHere() > 0 && !open) {
                return NO_FORK;
            }
            return takesEngines() ? 0 : NO_ENGINE;
        }

        boolean takesEngines() {
            if (walk.place == 0) {
                walk.engine = takeEngine(0, walk.loadHere());
                if (walk.engine == NONE) {
                    return false;
                }
            }
            walk.groupEngine[0] = walk.engine;
            for (int g = 1; g < walk.groups; g++) {
                int found = takeEngine(walk.place, walk.loadOfGroup(g));
                if (found == NONE) {
                    return false;
                }
                walk.groupEngine[g] = found;
            }
            return true;
        }

        int takeEngine(int place, int carriages) {
            int found = land.freeEngine(place, carriages, taken);
            if (found != NONE) {
                taken |= 1 << found;
            }
            return found;
        }

        int worthOfAll() {
            int sum = 0;
            for (int w = 0; w < land.wants; w++) {
                sum += worthOf(w);
            }
            return sum;
        }

        int worthOf(int want) {
            int most = 0;
            for (int t = 0; t < plan.trains; t++) {
                most = Math.max(most, worthBy(want, t));
            }
            return most;
        }

        int worthBy(int want, int train) {
            int served = servedBy(train);
            int full = land.fullWorth(want, plan.minute[train]);
            if (tree.isServed(land.wantTo[want], served)) {
                return full;
            }
            return tree.isNearlyServed(land.wantTo[want], served) ? full / 2 : 0;
        }

        int servedBy(int train) {
            if (errors[train] != 0) {
                return 0;
            }
            int bits = 0;
            for (int i = 0; i < plan.size[train]; i++) {
                bits |= tree.path[land.end[plan.row[train * MOST_PORTIONS + i]]];
            }
            return bits;
        }
    }

    /** Searches the best grouping, portion by portion, the lesser train first. */
    private static final class Grouping {
        // Engines of each place are counted in five bits of a long: the highest one, the guard,
        // falls when fewer than none are left.
        static final int COUNT_BITS = 5;
        static final long GUARDS = 0x0842_1084_2108_4210L;
        // Stands among the forks that a set needs, if it is too long somewhere: it never opens.
        static final int NEVER_OPEN = 1 << MOST_PLACES;

        final Land land;
        final Tree tree;
        final Plan plan;
        final Orders orders;
        final Walk walk;
        // 0: nothing, 1: what each set needs, 2: the best grouping too.
        int known;
        final int[] forksNeeded = new int[MOST_SETS];
        final int[] fullWants = new int[MOST_SETS];
        final int[] halfWants = new int[MOST_SETS];
        // The engines that a set takes, in their order: how many, where, of how many carriages.
        final int[] takes = new int[MOST_SETS];
        final int[] takeAt = new int[MOST_SETS * MOST_PORTIONS];
        final int[] takeLoad = new int[MOST_SETS * MOST_PORTIONS];
        final long[] needs = new long[MOST_SETS];
        int greatest;
        final int[] kept = new int[MOST_PORTIONS];
        // Where the search stands.
        int open;
        long free;
        final int[] sets = new int[MOST_TRAINS];
        final int[] chosen = new int[MOST_PORTIONS];
        final int[] worthBy = new int[MOST_TRAINS * MOST_WANTS];

        Grouping(Land land, Tree tree, Plan plan, Orders orders, Walk walk) {
            this.land = land;
            this.tree = tree;
            this.plan = plan;
            this.orders = orders;
            this.walk = walk;
        }

        void forgetLand() {
            known = 0;
        }

        void forgetPlan() {
            known = Math.min(known, 1);
        }

        /** Whether there is a grouping without errors; the best one is kept. */
        boolean find() {
            if (known == 0) {
                for (int set = 0; set <= land.allPortions(); set++) {
                    learnSet(set);
                }
                known = 1;
            }
            if (known == 1) {
                beginSearch();
                search(0);
                known = 2;
            }
            return greatest != NONE;
        }

        void learnSet(int set) {
            forksNeeded[set] = 0;
            takes[set] = 0;
            needs[set] = 0;
            orders.firstInto(set, chosen, 0);
            walk.load(chosen, 0, Integer.bitCount(set), 0);
            int served = 0;
            // The first row of a set is shut in nowhere.
            for (int i = 0; i < MOST_HALTS && walk.comes() && walk.splits(); i++) {
                served |= 1 << walk.place;
                learnHalt(set);
                walk.goOn();
            }
            learnWants(set, served);
        }

        void learnHalt(int set) {
            if (walk.loadHere() > land.platform[walk.place]) {
                forksNeeded[set] |= NEVER_OPEN;
            }
            if (walk.cutsHere() > 0) {
                forksNeeded[set] |= 1 << walk.place;
            }
            if (walk.place == 0) {
                learnEngine(set, walk.loadHere());
            }
            for (int g = 1; g < walk.groups; g++) {
                learnEngine(set, walk.loadOfGroup(g));
            }
        }

        void learnEngine(int set, int carriages) {
            // One for each portion at most: of the groups behind the first each has one of its own.
            if (takes[set] < MOST_PORTIONS) {
                int take = set * MOST_PORTIONS + takes[set];
                takeAt[take] = walk.place;
                takeLoad[take] = carriages;
                takes[set]++;
                needs[set] += 1L << COUNT_BITS * walk.place;
            }
        }

        void learnWants(int set, int served) {
            fullWants[set] = 0;
            halfWants[set] = 0;
            for (int w = 0; w < land.wants; w++) {
                if (tree.isServed(land.wantTo[w], served)) {
                    fullWants[set] |= 1 << w;
                } else if (tree.isNearlyServed(land.wantTo[w], served)) {
                    halfWants[set] |= 1 << w;
                }
            }
        }

        void beginSearch() {
            greatest = NONE;
            open = land.forkBits() & ~plan.shutForks;
            free = 0;
            for (int e = 0; e < land.engines; e++) {
                free += 1L << COUNT_BITS * land.engineAt[e];
            }
            Arrays.fill(sets, 0);
            for (int t = 0; t < plan.trains; t++) {
                for (int w = 0; w < land.wants; w++) {
                    worthBy[t * MOST_WANTS + w] = land.fullWorth(w, plan.minute[t]);
                }
            }
        }

        /** Puts a portion into each train, and all behind it; what a set needs, a greater one needs too. */
        void search(int portion) {
            if (portion >= land.portions) {
                keepIfBest();
                return;
            }
            int rest = land.allPortions() & ~((2 << portion) - 1);
            long freeBefore = free;
            for (int t = 0; t < plan.trains; t++) {
                int before = sets[t];
                int after = before | 1 << portion;
                if ((forksNeeded[after] & ~open) == 0) {
                    sets[t] = after;
                    chosen[portion] = t;
                    free = freeBefore - needs[after] + needs[before];
                    if (enginesMaySuffice() && (greatest == NONE || hope(rest) > greatest)) {
                        search(portion + 1);
                    }
                    free = freeBefore;
                    sets[t] = before;
                }
            }
        }

        boolean enginesMaySuffice() {
            return (free + GUARDS & GUARDS) == GUARDS;
        }

        void keepIfBest() {
            if (!enginesSuffice()) {
                return;
            }
            int worth = hope(0);
            if (worth > greatest) {
                greatest = worth;
                System.arraycopy(chosen, 0, kept, 0, MOST_PORTIONS);
            }
        }

        boolean enginesSuffice() {
            int taken = 0;
            for (int t = 0; t < plan.trains; t++) {
                int set = sets[t];
                for (int i = 0; i < takes[set]; i++) {
                    int take = set * MOST_PORTIONS + i;
                    int found = land.freeEngine(takeAt[take], takeLoad[take], taken);
                    if (found == NONE) {
                        return false;
                    }
                    taken |= 1 << found;
                }
            }
            return true;
        }

        /** The worth, if all portions of the rest went with each train at once: it can't become more. */
        int hope(int rest) {
            int sum = 0;
            for (int w = 0; w < land.wants; w++) {
                int most = 0;
                for (int t = 0; t < plan.trains; t++) {
                    int set = sets[t] | rest;
                    int full = worthBy[t * MOST_WANTS + w];
                    if ((fullWants[set] >> w & 1) != 0) {
                        most = Math.max(most, full);
                    } else if ((halfWants[set] >> w & 1) != 0) {
                        most = Math.max(most, full / 2);
                    }
                }
                sum += most;
            }
            return sum;
        }
    }

    /** Where rows are in the evening. A row bears the number of its first portion. */
    private static final class Arrivals {
        // NONE: the portion does not lead a row.
        final int[] at = new int[MOST_PORTIONS];
        final int[] minute = new int[MOST_PORTIONS];
        final int[] members = new int[MOST_PORTIONS];
        final int[] last = new int[MOST_PORTIONS];
        final int[] next = new int[MOST_PORTIONS];

        void copyFrom(Arrivals other) {
            System.arraycopy(other.at, 0, at, 0, MOST_PORTIONS);
            System.arraycopy(other.minute, 0, minute, 0, MOST_PORTIONS);
            System.arraycopy(other.members, 0, members, 0, MOST_PORTIONS);
            System.arraycopy(other.last, 0, last, 0, MOST_PORTIONS);
            System.arraycopy(other.next, 0, next, 0, MOST_PORTIONS);
        }

        void begin(int portion, int place, int coming) {
            at[portion] = place;
            minute[portion] = coming;
            members[portion] = 1 << portion;
            last[portion] = portion;
            next[portion] = NONE;
        }

        void join(int ahead, int row) {
            next[last[ahead]] = row;
            last[ahead] = last[row];
            members[ahead] |= members[row];
            at[row] = NONE;
        }

        boolean isAhead(int row, int other) {
            if (minute[row] != minute[other]) {
                return minute[row] < minute[other];
            }
            return (members[row] & -members[row]) < (members[other] & -members[other]);
        }
    }

    /** The evening: rows come to the root, and join at forks. */
    private static final class Evening {
        static final int WAITS = 13;
        static final int WAIT_STEP = 5;

        final Land land;
        final Tree tree;
        final Plan plan;
        final int[] wait = new int[MOST_PLACES];
        // Places where rows can join, as bits; all others are run through.
        int halts;
        final int[] nextHalt = new int[MOST_PLACES];
        final int[] lateness = new int[MOST_PORTIONS];
        final Arrivals rows = new Arrivals();
        final Arrivals saved = new Arrivals();
        final int[] queue = new int[MOST_PORTIONS];
        int queued;
        // Carriages times minutes, if each portion came alone and not late.
        int alone;
        final long[] harms = new long[WAITS];
        final int[] usual = new int[MOST_PORTIONS];
        int seed;

        Evening(Land land, Tree tree, Plan plan) {
            this.land = land;
            this.tree = tree;
            this.plan = plan;
        }

        void prepare() {
            System.arraycopy(plan.wait, 0, wait, 0, MOST_PLACES);
            halts = 0;
            for (int place = 1; place < land.places; place++) {
                int up = land.up[place];
                nextHalt[place] = up == 0 || isHalt(up) ? up : nextHalt[up];
                int coming = tree.coming[place];
                if (land.isFork(place) && !plan.isShut(place) && (coming & coming - 1) != 0) {
                    halts |= 1 << place;
                }
            }
            alone = 0;
            for (int p = 0; p < land.portions; p++) {
                alone += land.carriages[p] * (plan.start[p] + tree.minutes(land.end[p], 0));
            }
        }

        boolean isHalt(int place) {
            return (halts >> place & 1) != 0;
        }

        void setLate(int late) {
            for (int p = 0; p < land.portions; p++) {
                lateness[p] = (late >> p & 1) != 0 ? land.delay[p] : 0;
            }
        }

        void setOut() {
            for (int p = 0; p < land.portions; p++) {
                int end = land.end[p];
                int place = isHalt(end) ? end : nextHalt[end];
                rows.begin(p, place, plan.start[p] + lateness[p] + tree.minutes(end, place));
            }
        }

        /** All rows at places from one down to another go on; places behind them are told later. */
        void travel(int from, int to) {
            for (int place = from; place >= to; place--) {
                if (isHalt(place)) {
                    gather(place);
                    joinRows(place);
                    leave(place);
                }
            }
        }

        void play(int late) {
            prepare();
            setLate(late);
            setOut();
            travel(land.places - 1, 1);
        }

        /** The rows at a place, in the order in which they come. */
        void gather(int place) {
            queued = 0;
            for (int row = 0; row < land.portions; row++) {
                if (rows.at[row] == place) {
                    int i = queued;
                    while (i > 0 && rows.isAhead(row, queue[i - 1])) {
                        queue[i] = queue[i - 1];
                        i--;
                    }
                    queue[i] = row;
                    queued++;
                }
            }
        }

        void joinRows(int place) {
            for (int i = 0; i < queued - 1; i++) {
                if (rows.at[queue[i]] == place) {
                    joinBehind(i, place);
                }
            }
        }

        void joinBehind(int ahead, int place) {
            int row = queue[ahead];
            int latest = rows.minute[row] + wait[place];
            int leaving = rows.minute[row];
            int joined = 0;
            for (int i = ahead + 1; i < queued && rows.minute[queue[i]] <= latest; i++) {
                int other = queue[i];
                boolean here = rows.at[other] == place;
                if (here && tree.loads[rows.members[row] | rows.members[other]] <= land.platform[place]) {
                    rows.join(row, other);
                    leaving = rows.minute[other];
                    joined++;
                }
            }
            rows.minute[row] = leaving + joined * land.joining[place];
        }

        void leave(int place) {
            int next = nextHalt[place];
            int minutes = tree.minutes(place, next);
            for (int i = 0; i < queued; i++) {
                int row = queue[i];
                if (rows.at[row] == place) {
                    rows.at[row] = next;
                    rows.minute[row] += minutes;
                }
            }
        }

        int reachOf(int portion) {
            for (int row = 0; row < land.portions; row++) {
                if (rows.at[row] == 0 && (rows.members[row] >> portion & 1) != 0) {
                    return rows.minute[row];
                }
            }
            return NONE;
        }

        int rowsAtRoot() {
            int sum = 0;
            for (int row = 0; row < land.portions; row++) {
                if (rows.at[row] == 0) {
                    sum++;
                }
            }
            return sum;
        }

        int harmDone() {
            int sum = -alone;
            int many = 0;
            for (int row = 0; row < land.portions; row++) {
                if (rows.at[row] == 0) {
                    sum += tree.loads[rows.members[row]] * rows.minute[row];
                    many++;
                }
            }
            return many > 1 ? sum + 60 * (many - 1) : sum;
        }

        int chancers() {
            int bits = 0;
            for (int p = 0; p < land.portions; p++) {
                if (land.chance[p] > 0) {
                    bits |= 1 << p;
                }
            }
            return bits;
        }

        long weightOf(int late, int chancers) {
            long weight = 1;
            for (int p = 0; p < land.portions; p++) {
                if ((chancers >> p & 1) != 0) {
                    weight *= (late >> p & 1) != 0 ? land.chance[p] : 20 - land.chance[p];
                }
            }
            return weight;
        }

        long meanHarm() {
            prepare();
            int chancers = chancers();
            long sum = 0;
            for (int late = 0; late <= chancers; late++) {
                if ((late & ~chancers) == 0) {
                    setLate(late);
                    setOut();
                    travel(land.places - 1, 1);
                    sum += weightOf(late, chancers) * harmDone();
                }
            }
            return sum;
        }

        int bestWaitAt(int fork) {
            prepare();
            if (!isHalt(fork)) {
                // No two rows can join there, whatever the wait.
                return 0;
            }
            int chancers = chancers();
            Arrays.fill(harms, 0);
            for (int late = 0; late <= chancers; late++) {
                if ((late & ~chancers) == 0) {
                    setLate(late);
                    setOut();
                    travel(land.places - 1, fork + 1);
                    addHarms(fork, weightOf(late, chancers));
                }
            }
            int least = 0;
            for (int i = 1; i < WAITS; i++) {
                if (harms[i] < harms[least]) {
                    least = i;
                }
            }
            return least * WAIT_STEP;
        }

        void addHarms(int fork, long weight) {
            saved.copyFrom(rows);
            int telling = tellingWaits(fork);
            long harm = 0;
            for (int i = 0; i < WAITS; i++) {
                if ((telling >> i & 1) != 0) {
                    rows.copyFrom(saved);
                    wait[fork] = i * WAIT_STEP;
                    travel(fork, 1);
                    harm = weight * harmDone();
                }
                harms[i] += harm;
            }
        }

        /** Bits of the waits by which other rows may join than by the wait ahead of them. */
        int tellingWaits(int fork) {
            gather(fork);
            int bits = 1;
            for (int i = 0; i < queued; i++) {
                for (int k = i + 1; k < queued; k++) {
                    int between = rows.minute[queue[k]] - rows.minute[queue[i]];
                    if (between <= MOST_WAIT) {
                        bits |= 1 << (between + WAIT_STEP - 1) / WAIT_STEP;
                    }
                }
            }
            return bits;
        }

        int spoiltBy(int portion, int minutes, boolean spread) {
            play(0);
            for (int p = 0; p < land.portions; p++) {
                usual[p] = reachOf(p);
            }
            lateness[portion] = minutes;
            setOut();
            travel(land.places - 1, 1);
            int sum = 0;
            for (int p = 0; p < land.portions; p++) {
                int later = reachOf(p) - usual[p];
                if (p != portion && later > 0) {
                    sum += spread ? later : 1;
                }
            }
            return sum;
        }

        /** Whether a train's row, turned round, is a row at the root. */
        boolean bringsTurned(int train) {
            int size = plan.size[train];
            int from = train * MOST_PORTIONS;
            int portion = plan.row[from + size - 1];
            if (rows.at[portion] != 0) {
                return false;
            }
            for (int i = size - 1; i >= 0; i--) {
                if (portion != plan.row[from + i]) {
                    return false;
                }
                portion = rows.next[portion];
            }
            return portion == NONE;
        }

        int harmOfDays(int from, int many) {
            prepare();
            seed = from;
            int sum = 0;
            for (int i = 0; i < many; i++) {
                setLate(drawLate());
                setOut();
                travel(land.places - 1, 1);
                sum += harmDone();
            }
            return sum;
        }

        int drawLate() {
            int late = 0;
            for (int p = 0; p < land.portions; p++) {
                if (land.chance[p] > 0) {
                    seed = seed * 1_103_515_245 + 12_345;
                    if ((seed >>> 16 & 0x7fff) % 20 < land.chance[p]) {
                        late |= 1 << p;
                    }
                }
            }
            return late;
        }
    }

    /** Engines round the day, and where they wait. */
    private static final class Roster {
        final Land land;
        final Tree tree;
        final Plan plan;
        // The jobs that can be done behind a job, and those behind which it can be done, as bits.
        final int[] after = new int[MOST_JOBS];
        final int[] ahead = new int[MOST_JOBS];
        // The job whose engine does a job next; NONE: an engine begins with it.
        final int[] doneBehind = new int[MOST_JOBS];
        int tried;
        final int[] picks = new int[3];
        int leastWays;
        int leastBits;

        Roster(Land land, Tree tree, Plan plan) {
            this.land = land;
            this.tree = tree;
            this.plan = plan;
        }

        boolean canFollow(int job, int other) {
            if (job == other) {
                return false;
            }
            int there = plan.jobEnd[other] + tree.minutes(plan.jobTo[other], plan.jobFrom[job]);
            return there <= plan.jobMinute[job];
        }

        void link() {
            Arrays.fill(after, 0);
            Arrays.fill(ahead, 0);
            for (int job = 0; job < plan.jobs; job++) {
                for (int other = 0; other < plan.jobs; other++) {
                    if (canFollow(job, other)) {
                        after[other] |= 1 << job;
                        ahead[job] |= 1 << other;
                    }
                }
            }
        }

        int allJobs() {
            return (1 << plan.jobs) - 1;
        }

        int fewestEngines() {
            link();
            return enginesFor(allJobs());
        }

        /** Each job that an engine does behind another one spares an engine. */
        int enginesFor(int jobs) {
            Arrays.fill(doneBehind, NONE);
            int spared = 0;
            for (int job = 0; job < plan.jobs; job++) {
                if ((jobs >> job & 1) != 0) {
                    tried = 0;
                    if (findsNext(job, jobs, 0)) {
                        spared++;
                    }
                }
            }
            return Integer.bitCount(jobs) - spared;
        }

        boolean findsNext(int job, int jobs, int depth) {
            if (depth > MOST_JOBS) {
                return false;
            }
            for (int next = 0; next < plan.jobs; next++) {
                if ((after[job] & jobs & ~tried & 1 << next) != 0) {
                    tried |= 1 << next;
                    if (doneBehind[next] == NONE || findsNext(doneBehind[next], jobs, depth + 1)) {
                        doneBehind[next] = job;
                        return true;
                    }
                }
            }
            return false;
        }

        /** Fewest engines are as many as the most jobs of which no two can be done by one. */
        int proofBits() {
            int missing = fewestEngines();
            int kept = 0;
            int open = allJobs();
            for (int job = plan.jobs - 1; job >= 0; job--) {
                if ((open >> job & 1) != 0) {
                    open &= ~(1 << job);
                    if (enginesFor(open) < missing) {
                        kept |= 1 << job;
                        missing--;
                        open &= ~(after[job] | ahead[job]);
                    }
                }
            }
            return kept;
        }

        void findLight(int k) {
            for (int i = 0; i < k; i++) {
                picks[i] = i;
            }
            leastWays = waysToPicks(k);
            leastBits = pickBits(k);
            // There are 220 ways at most to pick three of twelve.
            for (int i = 0; i < 220 && pickNext(k); i++) {
                int ways = waysToPicks(k);
                if (ways < leastWays) {
                    leastWays = ways;
                    leastBits = pickBits(k);
                }
            }
        }

        /** The next rising row of places: false, if there is none. */
        boolean pickNext(int k) {
            for (int i = k - 1; i >= 0; i--) {
                if (picks[i] < land.places - k + i) {
                    picks[i]++;
                    for (int j = i + 1; j < k; j++) {
                        picks[j] = picks[j - 1] + 1;
                    }
                    return true;
                }
            }
            return false;
        }

        int waysToPicks(int k) {
            int sum = 0;
            for (int fork = 0; fork < land.places; fork++) {
                if (land.isFork(fork)) {
                    int nearest = tree.minutes(fork, picks[0]);
                    for (int i = 1; i < k; i++) {
                        nearest = Math.min(nearest, tree.minutes(fork, picks[i]));
                    }
                    sum += nearest;
                }
            }
            return sum;
        }

        int pickBits(int k) {
            int bits = 0;
            for (int i = 0; i < k; i++) {
                bits |= 1 << picks[i];
            }
            return bits;
        }
    }
}
