import java.util.ArrayList;
import java.util.Arrays;
import java.util.Comparator;
import java.util.List;
import java.util.NoSuchElementException;
import java.util.function.IntPredicate;

/** A second program for the same document, that tries everything out; slow, and only for tests. */
final class Oracle {
    record Place(int up, int minutes, int platform) { }
    record Fork(int part, int join) { }
    record Portion(int end, int carriages) { }
    record Late(int chance, int minutes) { }
    record Engine(int place, int pulls) { }
    record Want(int place, int people, int minute) { }
    record Job(int from, int minute, int to, int end) { }
    record Train(int minute, List<Integer> row) { }

    static final class Fault extends RuntimeException {
        private static final long serialVersionUID = 1;
        final int kind;
        final int at;

        Fault(int kind, int at) {
            this.kind = kind;
            this.at = at;
        }
    }

    static final class Told {
        final List<Place> places = new ArrayList<>();
        final Fork[] forks = new Fork[12];
        final List<Portion> portions = new ArrayList<>();
        final Late[] lates = new Late[7];
        final List<Engine> engines = new ArrayList<>();
        final List<Want> wants = new ArrayList<>();
    }

    static final class State {
        List<Train> trains = new ArrayList<>();
        List<Job> jobs = new ArrayList<>();
        boolean[] shut = new boolean[12];
        int[] waits = new int[12];
        int[] days = new int[7];
        int[] starts = new int[7];

        State() {
            Arrays.fill(days, 127);
            Arrays.fill(starts, 1080);
        }

        State copy() {
            State s = new State();
            for (Train t : trains) {
                s.trains.add(new Train(t.minute, new ArrayList<>(t.row)));
            }
            s.jobs.addAll(jobs);
            s.shut = shut.clone();
            s.waits = waits.clone();
            s.days = days.clone();
            s.starts = starts.clone();
            return s;
        }
    }

    /** The reading of a text, sign by sign. */
    static final class Text {
        final String text;
        int at = 0;

        Text(String text) {
            this.text = text;
        }

        char sign() {
            return at < text.length() ? text.charAt(at) : (char) 0xffff;
        }

        void blanks() {
            while (sign() == ' ') {
                at++;
            }
        }

        String take(IntPredicate kind) {
            StringBuilder b = new StringBuilder();
            while (at < text.length() && kind.test(sign())) {
                b.append(sign());
                at++;
            }
            return b.toString();
        }

        int number(int low, int high) {
            blanks();
            int from = at;
            String digits = take(c -> c >= '0' && c <= '9');
            if (digits.isEmpty()) {
                throw new Fault(1, from);
            }
            java.math.BigInteger n = new java.math.BigInteger(digits);
            if (n.compareTo(java.math.BigInteger.valueOf(low)) < 0 || n.compareTo(java.math.BigInteger.valueOf(high)) > 0) {
                throw new Fault(2, from);
            }
            return n.intValue();
        }

        void semicolon() {
            blanks();
            if (sign() != ';') {
                throw new Fault(1, at);
            }
            at++;
        }

        Told read() {
            Told t = new Told();
            int clauses = 0;
            blanks();
            do {
                int from = at;
                String word = take(c -> c >= 'a' && c <= 'z');
                clauses++;
                if (clauses == 1 != word.equals("root")
                        || !List.of("root", "place", "fork", "portion", "late", "engine", "want").contains(word)) {
                    throw new Fault(1, from);
                }
                if (clauses > 40 || word.equals("place") && t.places.size() == 12
                        || word.equals("portion") && t.portions.size() == 7
                        || word.equals("engine") && t.engines.size() == 8
                        || word.equals("want") && t.wants.size() == 12) {
                    throw new Fault(3, from);
                }
                clause(t, word);
                blanks();
            } while (at < text.length());
            return t;
        }

        void clause(Told t, String word) {
            int last = t.places.size() - 1;
            if (word.equals("root")) {
                t.places.add(new Place(-1, 0, number(1, 60)));
            } else if (word.equals("place")) {
                t.places.add(new Place(number(0, last), number(1, 240), number(1, 60)));
            } else if (word.equals("fork")) {
                t.forks[number(0, last)] = new Fork(number(1, 60), number(1, 60));
            } else if (word.equals("portion")) {
                t.portions.add(new Portion(number(1, last), number(1, 15)));
            } else if (word.equals("late")) {
                t.lates[number(0, t.portions.size() - 1)] = new Late(number(0, 19), number(1, 120));
            } else if (word.equals("engine")) {
                t.engines.add(new Engine(number(0, last), number(1, 60)));
            } else {
                t.wants.add(new Want(number(1, last), number(1, 999), number(0, 1439)));
            }
            semicolon();
        }
    }

    private Told told = new Told();
    private State state = new State();
    private final List<State> images = new ArrayList<>();
    private String tape = "";
    private int fault = -1;

    int feed(int... numbers) {
        if (tape.length() + 20 > 500) {
            return -1;
        }
        for (int n : numbers) {
            for (int i = 3; i >= 0; i--) {
                tape += (char) (n >> 8 * i & 255);
            }
        }
        return tape.length();
    }

    int land(int n) {
        if (n < 0 || n > tape.length()) {
            throw new IllegalArgumentException();
        }
        String text = tape.substring(0, n);
        tape = "";
        try {
            told = new Text(text).read();
        } catch (Fault f) {
            fault = f.at;
            return f.kind - 10;
        }
        fault = -1;
        state = new State();
        images.clear();
        return told.places.size();
    }

    int fault() {
        return fault;
    }

    int told(int what) {
        int forks = 0;
        for (Fork f : told.forks) {
            forks += f == null ? 0 : 1;
        }
        int[] all = {told.places.size(), told.portions.size(), told.engines.size(), told.wants.size(), forks,
            carriages(allPortions())};
        argument(what >= 0 && what < 6);
        return all[what];
    }

    static void argument(boolean good) {
        if (!good) {
            throw new IllegalArgumentException();
        }
    }

    void place(int p) {
        if (p < 0 || p >= told.places.size()) {
            throw new IndexOutOfBoundsException();
        }
    }

    void portion(int p) {
        argument(p >= 0 && p < told.portions.size());
    }

    void bits(int b) {
        argument(b >= 0 && b < 1 << told.portions.size());
    }

    Train getTrain(int t) {
        if (t < 0 || t >= state.trains.size()) {
            throw new NoSuchElementException();
        }
        return state.trains.get(t);
    }

    void fork(int p) {
        place(p);
        argument(told.forks[p] != null);
    }

    List<Integer> allPortions() {
        return setOf((1 << told.portions.size()) - 1);
    }

    static List<Integer> setOf(int bits) {
        List<Integer> set = new ArrayList<>();
        for (int i = 0; i < 31; i++) {
            if ((bits >> i & 1) == 1) {
                set.add(i);
            }
        }
        return set;
    }

    int carriages(List<Integer> set) {
        return set.stream().mapToInt(p -> told.portions.get(p).carriages).sum();
    }

    /** From the place to the root. */
    List<Integer> line(int place) {
        List<Integer> line = new ArrayList<>();
        for (int p = place; p >= 0; p = told.places.get(p).up) {
            line.add(p);
        }
        return line;
    }

    int end(int portion) {
        return told.portions.get(portion).end;
    }

    int way(int place, int other) {
        place(place);
        place(other);
        List<Integer> a = line(place);
        List<Integer> b = line(other);
        int sum = 0;
        for (int p : a) {
            sum += b.contains(p) ? 0 : told.places.get(p).minutes;
        }
        for (int p : b) {
            sum += a.contains(p) ? 0 : told.places.get(p).minutes;
        }
        return sum;
    }

    int nextPlace(int place, int portion) {
        List<Integer> line = line(end(portion));
        int i = line.indexOf(place);
        return i == 0 ? -1 : line.get(i - 1);
    }

    /** The groups of a row at a place, those that stay behind them (maybe none); null: it is shut in. */
    List<List<Integer>> parts(List<Integer> row, int place) {
        List<List<Integer>> groups = new ArrayList<>();
        List<Integer> stays = new ArrayList<>();
        List<Integer> seen = new ArrayList<>();
        int before = -2;
        for (int p : row) {
            int next = nextPlace(place, p);
            if (next == -1) {
                stays.add(p);
            } else {
                if (!stays.isEmpty()) {
                    return null;
                }
                if (next != before) {
                    if (seen.contains(next)) {
                        return null;
                    }
                    seen.add(next);
                    groups.add(new ArrayList<>());
                }
                groups.get(groups.size() - 1).add(p);
            }
            before = next;
        }
        groups.add(stays);
        return groups;
    }

    boolean lawful(List<Integer> row, int place) {
        List<List<Integer>> parts = parts(row, place);
        if (parts == null) {
            return false;
        }
        for (List<Integer> g : parts.subList(0, parts.size() - 1)) {
            if (!lawful(g, nextPlace(place, g.get(0)))) {
                return false;
            }
        }
        return true;
    }

    void lawfulRows(List<Integer> row, List<Integer> rest, List<List<Integer>> found) {
        if (rest.isEmpty()) {
            if (row.isEmpty() || lawful(row, 0)) {
                found.add(new ArrayList<>(row));
            }
            return;
        }
        for (int p : rest) {
            row.add(p);
            List<Integer> others = new ArrayList<>(rest);
            others.remove(Integer.valueOf(p));
            lawfulRows(row, others, found);
            row.remove(row.size() - 1);
        }
    }

    List<List<Integer>> lawfulRows(List<Integer> set) {
        List<List<Integer>> found = new ArrayList<>();
        lawfulRows(new ArrayList<>(), set, found);
        return found;
    }

    List<Integer> firstRow(List<Integer> set) {
        List<Integer> sorted = new ArrayList<>(set);
        sorted.sort(Comparator.naturalOrder());
        return lawfulRows(sorted).get(0);
    }

    int orders(int bits) {
        bits(bits);
        return lawfulRows(setOf(bits)).size();
    }

    int first(int bits, int k) {
        bits(bits);
        List<Integer> row = firstRow(setOf(bits));
        return k >= 0 && k < row.size() ? row.get(k) : -1;
    }

    int train(int minute) {
        argument(minute >= 0 && minute < 1440);
        if (told.places.isEmpty()) {
            throw new IllegalStateException();
        }
        if (state.trains.size() == 4) {
            return -1;
        }
        state.trains.add(new Train(minute, new ArrayList<>()));
        return state.trains.size() - 1;
    }

    int trainOf(int portion) {
        for (int t = 0; t < state.trains.size(); t++) {
            if (state.trains.get(t).row.contains(portion)) {
                return t;
            }
        }
        return -1;
    }

    int put(int train, int portion) {
        Train t = getTrain(train);
        portion(portion);
        if (trainOf(portion) >= 0) {
            return -1;
        }
        t.row.add(portion);
        return t.row.size();
    }

    int sort(int train) {
        Train t = getTrain(train);
        List<Integer> row = firstRow(t.row);
        boolean same = row.equals(t.row);
        t.row.clear();
        t.row.addAll(row);
        return same ? 0 : 1;
    }

    int clear(int train) {
        Train t = getTrain(train);
        int n = t.row.size();
        t.row.clear();
        return n;
    }

    int row(int train, int k) {
        Train t = getTrain(train);
        return k >= 0 && k < t.row.size() ? t.row.get(k) : -1;
    }

    /** What judging finds. */
    final class Judged {
        final List<Integer> errors = new ArrayList<>();
        final int[] engines = new int[7];
        final int[] arrives = new int[7];
        final boolean[] taken = new boolean[8];

        Judged(List<Train> trains) {
            Arrays.fill(engines, -1);
            Arrays.fill(arrives, -1);
            for (Train t : trains) {
                int error = t.row.isEmpty() ? 0 : go(t.row, 0, t.minute, -1);
                errors.add(error);
                if (error != 0) {
                    for (int p : t.row) {
                        engines[p] = -1;
                        arrives[p] = -1;
                    }
                }
            }
        }

        int take(int place, List<Integer> row) {
            for (int e = 0; e < told.engines.size(); e++) {
                Engine engine = told.engines.get(e);
                if (!taken[e] && engine.place == place && engine.pulls >= carriages(row)) {
                    taken[e] = true;
                    return e;
                }
            }
            return -1;
        }

        int go(List<Integer> row, int place, int minute, int engine) {
            if (carriages(row) > told.places.get(place).platform) {
                return 300 + place;
            }
            List<List<Integer>> parts = parts(row, place);
            if (parts == null) {
                return 200 + place;
            }
            List<Integer> stays = parts.remove(parts.size() - 1);
            int cuts = parts.size() + (stays.isEmpty() ? 0 : 1) - 1;
            if (cuts > 0 && !parts.isEmpty() && (told.forks[place] == null || state.shut[place])) {
                return 400 + place;
            }
            int own = place == 0 ? take(0, row) : engine;
            if (own < 0) {
                return 100 + place;
            }
            int[] pulled = new int[parts.size()];
            for (int g = 0; g < pulled.length; g++) {
                pulled[g] = g == 0 ? own : take(place, parts.get(g));
                if (pulled[g] < 0) {
                    return 100 + place;
                }
            }
            for (int p : stays) {
                arrives[p] = minute;
                engines[p] = own;
            }
            for (int g = 0; g < pulled.length; g++) {
                int leaves = cuts > 0 ? minute + (g + 1) * told.forks[place].part : minute;
                int next = nextPlace(place, parts.get(g).get(0));
                int error = go(parts.get(g), next, leaves + told.places.get(next).minutes, pulled[g]);
                if (error != 0) {
                    return error;
                }
            }
            return 0;
        }
    }

    int error(int train) {
        getTrain(train);
        return new Judged(state.trains).errors.get(train);
    }

    int engine(int portion) {
        portion(portion);
        return new Judged(state.trains).engines[portion];
    }

    int arrives(int portion) {
        portion(portion);
        return new Judged(state.trains).arrives[portion];
    }

    boolean serves(Train t, int place) {
        return t.row.stream().anyMatch(p -> line(end(p)).contains(place));
    }

    static int full(Want w, int minute) {
        return w.people * (100 - Math.min(90, Math.abs(w.minute - minute) / 10));
    }

    int worthOf(Want w, List<Train> trains, List<Integer> errors) {
        int most = 0;
        for (int t = 0; t < trains.size(); t++) {
            Train train = trains.get(t);
            if (errors.get(t) == 0) {
                boolean nearly = line(w.place).stream().anyMatch(p -> p != 0 && serves(train, p));
                int worth = serves(train, w.place) ? full(w, train.minute) : nearly ? full(w, train.minute) / 2 : 0;
                most = Math.max(most, worth);
            }
        }
        return most;
    }

    int worth(int want) {
        argument(want >= -1 && want < told.wants.size());
        List<Integer> errors = new Judged(state.trains).errors;
        if (want >= 0) {
            return worthOf(told.wants.get(want), state.trains, errors);
        }
        return told.wants.stream().mapToInt(w -> worthOf(w, state.trains, errors)).sum();
    }

    /** The best grouping as trains of portions; the worth stands behind them; null: there is none. */
    int[] bestGrouping() {
        int portions = told.portions.size();
        int trains = state.trains.size();
        int[] best = null;
        List<List<Integer>> rows = new ArrayList<>();
        for (int set = 0; set < 1 << portions; set++) {
            rows.add(firstRow(setOf(set)));
        }
        long ways = 1;
        for (int p = 0; p < portions; p++) {
            ways *= trains;
        }
        for (long way = 0; way < ways; way++) {
            int[] choice = new int[portions + 1];
            int[] sets = new int[4];
            long left = way;
            for (int p = portions - 1; p >= 0; p--) {
                choice[p] = (int) (left % trains);
                sets[choice[p]] |= 1 << p;
                left /= trains;
            }
            List<Train> tried = new ArrayList<>();
            for (int t = 0; t < trains; t++) {
                tried.add(new Train(state.trains.get(t).minute, rows.get(sets[t])));
            }
            List<Integer> errors = new Judged(tried).errors;
            if (errors.stream().allMatch(e -> e == 0)) {
                choice[portions] = told.wants.stream().mapToInt(w -> worthOf(w, tried, errors)).sum();
                if (best == null || choice[portions] > best[portions]) {
                    best = choice;
                }
            }
        }
        return best;
    }

    int best(int portion) {
        argument(portion >= -1 && portion < told.portions.size());
        int[] best = bestGrouping();
        if (best == null) {
            return -2;
        }
        return best[portion < 0 ? told.portions.size() : portion];
    }

    int bound() {
        int sum = 0;
        for (Want w : told.wants) {
            sum += state.trains.stream().min(Comparator.comparingInt(t -> Math.abs(t.minute - w.minute)))
                    .map(t -> full(w, t.minute)).orElse(0);
        }
        return sum;
    }

    int group() {
        int[] best = bestGrouping();
        if (best == null) {
            return -2;
        }
        int changed = 0;
        for (int p = 0; p < told.portions.size(); p++) {
            changed += trainOf(p) == best[p] ? 0 : 1;
        }
        for (int t = 0; t < state.trains.size(); t++) {
            List<Integer> set = new ArrayList<>();
            for (int p = 0; p < told.portions.size(); p++) {
                if (best[p] == t) {
                    set.add(p);
                }
            }
            List<Integer> row = state.trains.get(t).row;
            row.clear();
            row.addAll(firstRow(set));
        }
        return changed;
    }

    boolean shut(int place, boolean is) {
        fork(place);
        boolean was = state.shut[place];
        state.shut[place] = is;
        return was;
    }

    int evening(int portion, int minute) {
        portion(portion);
        argument(minute >= 0 && minute < 1440);
        int was = state.starts[portion];
        state.starts[portion] = minute;
        return was;
    }

    int hold(int place, int minutes) {
        fork(place);
        argument(minutes >= 0 && minutes <= 60);
        int was = state.waits[place];
        state.waits[place] = minutes;
        return was;
    }

    /** A row in the evening. */
    record Row(int minute, List<Integer> portions) { }

    int[] lateness(int late) {
        int[] minutes = new int[7];
        for (int p : setOf(late)) {
            minutes[p] = told.lates[p] == null ? 0 : told.lates[p].minutes;
        }
        return minutes;
    }

    List<Row> rowsAt(int place, int[] late) {
        List<Row> rows = new ArrayList<>();
        for (int p : allPortions()) {
            if (end(p) == place) {
                rows.add(new Row(state.starts[p] + late[p], List.of(p)));
            }
        }
        for (int next = 1; next < told.places.size(); next++) {
            if (told.places.get(next).up == place) {
                for (Row r : leaving(next, late)) {
                    rows.add(new Row(r.minute + told.places.get(next).minutes, r.portions));
                }
            }
        }
        rows.sort(Comparator.comparingInt(Row::minute)
                .thenComparing(r -> r.portions.stream().min(Comparator.naturalOrder()).get()));
        return rows;
    }

    List<Row> leaving(int place, int[] late) {
        List<Row> rows = rowsAt(place, late);
        if (told.forks[place] == null || state.shut[place]) {
            return rows;
        }
        List<Row> gone = new ArrayList<>();
        while (!rows.isEmpty()) {
            Row lead = rows.remove(0);
            List<Integer> joined = new ArrayList<>(lead.portions);
            int leaves = lead.minute;
            int many = 0;
            for (Row r : new ArrayList<>(rows)) {
                if (r.minute - lead.minute <= state.waits[place]
                        && carriages(joined) + carriages(r.portions) <= told.places.get(place).platform) {
                    joined.addAll(r.portions);
                    leaves = r.minute;
                    many++;
                    rows.remove(r);
                }
            }
            gone.add(new Row(leaves + many * told.forks[place].join, joined));
        }
        return gone;
    }

    List<Row> atRoot(int[] late) {
        return told.places.isEmpty() ? List.of() : rowsAt(0, late);
    }

    int reach(int portion, int[] late) {
        return atRoot(late).stream().filter(r -> r.portions.contains(portion)).findFirst().get().minute;
    }

    int reaches(int portion, int late) {
        portion(portion);
        bits(late);
        return reach(portion, lateness(late));
    }

    int rows(int late) {
        bits(late);
        return atRoot(lateness(late)).size();
    }

    int harm(int late) {
        bits(late);
        List<Row> rows = atRoot(lateness(late));
        int sum = rows.isEmpty() ? 0 : 60 * (rows.size() - 1);
        for (Row r : rows) {
            for (int p : r.portions) {
                sum += told.portions.get(p).carriages * (r.minute - state.starts[p] - way(end(p), 0));
            }
        }
        return sum;
    }

    int chance(int portion) {
        return told.lates[portion] == null ? 0 : told.lates[portion].chance;
    }

    long meanFrom(int portion, int late) {
        if (portion == told.portions.size()) {
            return harm(late);
        }
        int n = chance(portion);
        if (n == 0) {
            return meanFrom(portion + 1, late);
        }
        return n * meanFrom(portion + 1, late | 1 << portion) + (20 - n) * meanFrom(portion + 1, late);
    }

    long mean() {
        return meanFrom(0, 0);
    }

    int bestWait(int place) {
        fork(place);
        int was = state.waits[place];
        int best = 0;
        long least = Long.MAX_VALUE;
        for (int w = 0; w <= 60; w += 5) {
            state.waits[place] = w;
            long harm = mean();
            if (harm < least) {
                least = harm;
                best = w;
            }
        }
        state.waits[place] = was;
        return best;
    }

    int settle() {
        int changed = 0;
        for (int place = told.places.size() - 1; place >= 0; place--) {
            if (told.forks[place] != null) {
                int w = bestWait(place);
                changed += w == state.waits[place] ? 0 : 1;
                state.waits[place] = w;
            }
        }
        return changed;
    }

    int spoil(int portion, int minutes, int what) {
        portion(portion);
        argument(minutes >= 0 && minutes <= 240);
        argument(what == 0 || what == 1);
        int[] late = new int[7];
        late[portion] = minutes;
        int spoilt = 0;
        int spread = 0;
        for (int p : allPortions()) {
            int more = reach(p, late) - reach(p, new int[7]);
            if (p != portion && more > 0) {
                spoilt++;
                spread += more;
            }
        }
        return what == 0 ? spoilt : spread;
    }

    boolean alike(int train) {
        List<Integer> turned = new ArrayList<>(getTrain(train).row);
        java.util.Collections.reverse(turned);
        return atRoot(new int[7]).stream().anyMatch(r -> r.portions.equals(turned));
    }

    int wrong(int train, int s) {
        Train t = getTrain(train);
        argument(s >= 0 && s <= 100);
        if (t.row.isEmpty()) {
            return 0;
        }
        java.math.BigInteger sum = java.math.BigInteger.ZERO;
        for (int p : t.row) {
            int people = told.wants.stream().filter(w -> w.place == end(p)).mapToInt(w -> w.people).sum();
            for (int q : t.row) {
                if (p != q) {
                    long one = (long) people * (100 - s) * told.portions.get(q).carriages * way(end(p), end(q));
                    sum = sum.add(java.math.BigInteger.valueOf(one));
                }
            }
        }
        return sum.divide(java.math.BigInteger.valueOf(100L * carriages(t.row))).intValueExact();
    }

    int job(int from, int minute, int to, int end) {
        place(from);
        place(to);
        argument(minute >= 0 && minute <= 2879 && end >= 0 && end <= 2879 && end > minute);
        argument(end - minute >= way(from, to));
        if (state.jobs.size() == 14) {
            return -1;
        }
        state.jobs.add(new Job(from, minute, to, end));
        return state.jobs.size() - 1;
    }

    boolean behind(int job, int other) {
        argument(job >= 0 && job < state.jobs.size() && other >= 0 && other < state.jobs.size());
        Job a = state.jobs.get(job);
        Job b = state.jobs.get(other);
        return job != other && a.minute - b.end >= way(b.to, a.from);
    }

    /** Gives jobs one after the other, the earlier first, to each engine that can do it, or to a new one. */
    int fewestFrom(List<Integer> order, int at, List<Integer> last, int best) {
        if (last.size() >= best) {
            return best;
        }
        if (at == order.size()) {
            return last.size();
        }
        int job = order.get(at);
        for (int e = 0; e < last.size(); e++) {
            int was = last.get(e);
            if (behind(job, was)) {
                last.set(e, job);
                best = fewestFrom(order, at + 1, last, best);
                last.set(e, was);
            }
        }
        last.add(job);
        best = fewestFrom(order, at + 1, last, best);
        last.remove(last.size() - 1);
        return best;
    }

    int fewest() {
        List<Integer> order = setOf((1 << state.jobs.size()) - 1);
        order.sort(Comparator.comparingInt(j -> state.jobs.get(j).minute));
        return fewestFrom(order, 0, new ArrayList<>(), state.jobs.size() + 1);
    }

    int proof() {
        int n = state.jobs.size();
        int[] near = new int[n];
        for (int a = 0; a < n; a++) {
            for (int b = 0; b < n; b++) {
                near[a] |= behind(a, b) || behind(b, a) ? 1 << b : 0;
            }
        }
        int best = 0;
        for (int set = 0; set < 1 << n; set++) {
            boolean good = true;
            for (int a = 0; a < n; a++) {
                good &= (set >> a & 1) == 0 || (near[a] & set) == 0;
            }
            if (good && Integer.bitCount(set) > Integer.bitCount(best)) {
                best = set;
            }
        }
        return best;
    }

    int light(int k, int what) {
        argument(k >= 1 && k <= 3 && (what == 0 || what == 1));
        int n = told.places.size();
        if (n < k) {
            return -1;
        }
        List<List<Integer>> picks = new ArrayList<>();
        for (int set = 0; set < 1 << n; set++) {
            if (Integer.bitCount(set) == k) {
                picks.add(setOf(set));
            }
        }
        picks.sort((a, b) -> {
            int i = 0;
            while (i < k - 1 && a.get(i).equals(b.get(i))) {
                i++;
            }
            return a.get(i) - b.get(i);
        });
        int least = Integer.MAX_VALUE;
        int bits = 0;
        for (List<Integer> pick : picks) {
            int sum = 0;
            for (int f = 0; f < n; f++) {
                int fork = f;
                sum += told.forks[f] == null ? 0 : pick.stream().mapToInt(p -> way(fork, p)).min().getAsInt();
            }
            if (sum < least) {
                least = sum;
                bits = pick.stream().mapToInt(p -> 1 << p).sum();
            }
        }
        return what == 0 ? least : bits;
    }

    int days(int portion, int bits) {
        portion(portion);
        argument(bits >= 0 && bits < 128);
        int was = state.days[portion];
        state.days[portion] = bits;
        return was;
    }

    int cutsFrom(List<Integer> row, int place) {
        List<List<Integer>> parts = parts(row, place);
        int sum = -1;
        for (List<Integer> part : parts) {
            if (!part.isEmpty()) {
                sum++;
                if (parts.indexOf(part) < parts.size() - 1) {
                    sum += cutsFrom(part, nextPlace(place, part.get(0)));
                }
            }
        }
        return sum;
    }

    int cuts(int train, int day) {
        Train t = getTrain(train);
        argument(day >= 0 && day <= 6);
        List<Integer> row = new ArrayList<>(t.row);
        row.removeIf(p -> (state.days[p] >> day & 1) == 0);
        if (row.isEmpty()) {
            return 0;
        }
        return lawful(row, 0) ? cutsFrom(row, 0) : -1;
    }

    int why(int train, int place) {
        Train t = getTrain(train);
        place(place);
        List<Integer> here = new ArrayList<>(t.row);
        here.removeIf(p -> !line(end(p)).contains(place));
        if (here.isEmpty() || !lawful(t.row, 0)) {
            return 0;
        }
        List<List<Integer>> groups = parts(here, place);
        groups.remove(groups.size() - 1);
        int people = 0;
        for (Want w : told.wants) {
            boolean served = false;
            for (int g = 1; g < groups.size(); g++) {
                for (int p : groups.get(g)) {
                    served |= line(end(p)).contains(w.place) && line(w.place).contains(place) && w.place != place;
                }
            }
            people += served ? w.people : 0;
        }
        return people;
    }

    int day(int seed) {
        return run(seed, 1);
    }

    int run(int seed, int many) {
        argument(many >= 1 && many <= 200);
        long now = seed & 0xffffffffL;
        int sum = 0;
        for (int d = 0; d < many; d++) {
            int late = 0;
            for (int p : allPortions()) {
                if (chance(p) > 0) {
                    now = (now * 1103515245L + 12345L) & 0xffffffffL;
                    late |= (now / 65536) % 32768 % 20 < chance(p) ? 1 << p : 0;
                }
            }
            sum += harm(late);
        }
        return sum;
    }

    int image() {
        if (images.size() == 3) {
            return -1;
        }
        images.add(state.copy());
        return images.size();
    }

    int restore() {
        if (images.isEmpty()) {
            return -1;
        }
        state = images.remove(images.size() - 1);
        return images.size();
    }

    int count(int what) {
        int put = 0;
        for (Train t : state.trains) {
            put += t.row.size();
        }
        int shut = 0;
        for (boolean s : state.shut) {
            shut += s ? 1 : 0;
        }
        int[] all = {state.trains.size(), put, state.jobs.size(), shut, images.size(), tape.length()};
        return what >= 0 && what < 6 ? all[what] : -1;
    }
}
