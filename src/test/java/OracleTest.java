import java.util.Random;

/** Plays calls by fixed seeds on the class and on the oracle, and compares every answer. */
public final class OracleTest {
    private static final String[] NAMES = {"feed", "land", "fault", "told", "way", "orders", "first", "train", "put",
        "sort", "clear", "row", "error", "engine", "arrives", "worth", "best", "bound", "group", "shut", "evening",
        "hold", "reaches", "rows", "harm", "mean", "bestWait", "settle", "spoil", "alike", "wrong", "job", "behind",
        "fewest", "proof", "light", "days", "cuts", "why", "day", "run", "image", "restore", "count"};
    // How often a call comes: those that the oracle takes long for come seldom.
    private static final int[] OFTEN = {1, 1, 1, 2, 2, 3, 3, 4, 14, 3, 2, 2, 6, 4, 6, 4, 1, 2, 1, 5, 6,
        8, 5, 3, 4, 1, 1, 1, 5, 4, 3, 10, 4, 3, 2, 2, 5, 6, 8, 3, 1, 2, 2, 3};

    private static final String[] PRELUDE = {"train", "train", "put", "put", "put", "put", "put", "put", "put", "put",
        "put", "sort", "sort", "hold", "hold", "hold", "hold", "evening", "evening", "job", "job", "job", "job"};

    private static final int[] EXTREMES = {Integer.MIN_VALUE, Integer.MAX_VALUE, Integer.MIN_VALUE + 1, 1 << 30, -2, 12,
        31, 32, 1 << 16};

    private final Random random;
    private final PartingTrains x = new PartingTrains();
    private final Oracle o = new Oracle();
    private int places;
    private int portions;
    private int wants;

    private OracleTest(long seed) {
        random = new Random(seed);
    }

    public static void main(String[] args) {
        int runs = args.length > 0 ? Integer.parseInt(args[0]) : 120;
        int wrong = 0;
        for (int seed = 0; seed < runs && wrong < 5; seed++) {
            String fault = new OracleTest(seed).play();
            if (fault == null) {
                fault = new OracleTest(seed).playWaits();
            }
            if (fault != null) {
                wrong++;
                System.out.println("seed " + seed + ": " + fault);
            }
        }
        System.out.println("OracleTest: " + runs + " runs, " + wrong + " wrong");
        if (wrong > 0) {
            System.exit(1);
        }
    }

    private String play() {
        String fault = null;
        for (int i = 0; fault == null && i < 8; i++) {
            fault = tell(randomLand(true));
        }
        if (fault == null) {
            fault = tell(randomLand(false));
        }
        for (int i = 0; fault == null && i < PRELUDE.length; i++) {
            fault = compare(indexOf(PRELUDE[i]));
        }
        int all = 0;
        for (int n : OFTEN) {
            all += n;
        }
        for (int i = 0; fault == null && i < 150; i++) {
            int k = random.nextInt(all);
            int op = 0;
            while (k >= OFTEN[op]) {
                k -= OFTEN[op];
                op++;
            }
            fault = random.nextInt(100) == 0 ? tell(randomLand(true)) : compare(op);
        }
        return fault;
    }

    /** Evenings alone: what is best at a fork hangs on what is done at all others. */
    private String playWaits() {
        String fault = tell(randomLand(false));
        for (int p = 0; fault == null && p < portions; p++) {
            fault = compare(indexOf("evening"), new int[] {p, 1060 + upTo(60)});
        }
        for (int i = 0; fault == null && i < 3 * places; i++) {
            String name = i < places ? "hold" : "bestWait";
            fault = compare(indexOf(name), i < places ? new int[] {i, upTo(61)} : new int[] {i % places});
            if (fault == null && i == 2 * places) {
                fault = compare(indexOf("settle"));
            }
        }
        return fault == null ? compare(indexOf("mean")) : fault;
    }

    private String tell(String text) {
        for (int i = 0; i < text.length(); i += 20) {
            int[] n = new int[5];
            for (int k = 0; k < 20; k++) {
                n[k / 4] |= (i + k < text.length() ? text.charAt(i + k) : ' ') << (24 - k % 4 * 8);
            }
            if (x.feed(n[0], n[1], n[2], n[3], n[4]) != o.feed(n)) {
                return "feed";
            }
        }
        int n = Math.min(text.length(), x.count(5));
        int got = x.land(n);
        int due = o.land(n);
        if (got != due || x.fault() != o.fault()) {
            return "land of " + text + ": " + got + " at " + x.fault() + ", due is " + due + " at " + o.fault();
        }
        places = x.told(0);
        portions = x.told(1);
        wants = x.told(3);
        return null;
    }

    private static int indexOf(String name) {
        return java.util.Arrays.asList(NAMES).indexOf(name);
    }

    private int upTo(int n) {
        return random.nextInt(Math.max(1, n));
    }

    private String randomLand(boolean spoilt) {
        StringBuilder b = new StringBuilder();
        int many = 2 + upTo(random.nextBoolean() ? 5 : 11);
        int far = random.nextBoolean() ? 8 : 60;
        b.append("root ").append(20 + upTo(41)).append(';');
        for (int p = 1; p < many; p++) {
            int up = Math.max(0, p - 1 - upTo(random.nextBoolean() ? 3 : 9));
            b.append("place ").append(up).append(' ').append(1 + upTo(far)).append(' ')
                    .append(random.nextInt(3) == 0 ? 5 + upTo(20) : 30 + upTo(31)).append(';');
        }
        for (int p = 0; p < many; p++) {
            if (random.nextInt(6) > 0) {
                b.append("fork ").append(p).append(' ').append(1 + upTo(5)).append(' ').append(1 + upTo(6)).append(';');
            }
        }
        int told = 1 + upTo(random.nextInt(3) == 0 ? 7 : 5);
        for (int p = 0; p < told; p++) {
            b.append("portion ").append(1 + upTo(many - 1)).append(' ').append(1 + upTo(6)).append(';');
            if (random.nextInt(3) > 0) {
                b.append("late ").append(upTo(p + 1)).append(' ').append(upTo(20)).append(' ').append(1 + upTo(40))
                        .append(';');
            }
        }
        int engines = random.nextInt(3) == 0 ? upTo(9) : 8;
        for (int e = 0; e < engines; e++) {
            b.append("engine ").append(random.nextInt(2) == 0 ? 0 : upTo(many)).append(' ').append(9 + upTo(40))
                    .append(';');
        }
        for (int w = upTo(7); w > 0; w--) {
            b.append("want ").append(1 + upTo(many - 1)).append(' ').append(1 + upTo(99)).append(' ')
                    .append(upTo(1440)).append(';');
        }
        if (spoilt) {
            spoil(b);
        }
        return b.length() > 500 ? b.substring(0, b.lastIndexOf(";", 499) + 1) : b.toString();
    }

    private void spoil(StringBuilder b) {
        String signs = " 0123456789;;abcdefkoprtw-";
        for (int i = upTo(3); i > 0; i--) {
            int at = upTo(b.length());
            char sign = signs.charAt(upTo(signs.length()));
            if (random.nextBoolean()) {
                b.setCharAt(at, sign);
            } else {
                b.insert(at, sign);
            }
        }
    }

    private int place() {
        return random.nextInt(20) == 0 ? random.nextInt(20) - 4 : upTo(places);
    }

    private int portion() {
        return random.nextInt(20) == 0 ? random.nextInt(12) - 3 : upTo(portions);
    }

    private int train() {
        return random.nextInt(20) == 0 ? random.nextInt(9) - 3 : upTo(x.count(0));
    }

    private int bits() {
        return random.nextInt(20) == 0 ? random.nextInt(300) - 40 : upTo(1 << portions);
    }

    private int job() {
        return random.nextInt(20) == 0 ? random.nextInt(20) - 3 : upTo(x.count(2));
    }

    private int number(int low, int high) {
        return random.nextInt(20) == 0 ? low - 2 + random.nextInt(high - low + 5) : low + random.nextInt(high - low + 1);
    }

    private int[] arguments(int op) {
        switch (NAMES[op]) {
            case "feed":
                return new int[] {random.nextInt(), 5, random.nextInt(), 7, 8};
            case "land":
                return new int[] {random.nextInt(4) == 0 ? -random.nextInt(3) : x.count(5) + 1 + random.nextInt(2)};
            case "told": case "count":
                return new int[] {number(0, 5)};
            case "way":
                return new int[] {place(), place()};
            case "orders": case "rows": case "harm":
                return new int[] {bits()};
            case "first":
                return new int[] {bits(), number(0, 6)};
            case "train":
                return new int[] {number(0, 1439)};
            case "put":
                return new int[] {train(), portion()};
            case "sort": case "clear": case "error": case "alike":
                return new int[] {train()};
            case "row":
                return new int[] {train(), number(0, 6)};
            case "engine": case "arrives":
                return new int[] {portion()};
            case "worth":
                return new int[] {number(-1, Math.max(0, wants - 1))};
            case "best":
                return new int[] {number(-1, Math.max(0, portions - 1))};
            case "shut":
                return new int[] {place(), random.nextInt(2)};
            case "evening":
                return new int[] {portion(), random.nextInt(10) == 0 ? number(0, 1439) : 1040 + upTo(80)};
            case "hold":
                return new int[] {place(), number(0, 60)};
            case "reaches":
                return new int[] {portion(), bits()};
            case "bestWait":
                return new int[] {place()};
            case "spoil":
                return new int[] {portion(), number(0, random.nextBoolean() ? 240 : 40), number(0, 1)};
            case "wrong":
                return new int[] {train(), number(0, 100)};
            case "job":
                return randomJob();
            case "behind":
                return new int[] {job(), job()};
            case "light":
                return new int[] {number(1, 3), number(0, 1)};
            case "days":
                return new int[] {portion(), number(0, 127)};
            case "cuts":
                return new int[] {train(), number(0, 6)};
            case "why":
                return new int[] {train(), place()};
            case "day":
                return new int[] {random.nextInt()};
            case "run":
                return new int[] {random.nextInt(), random.nextInt(9) == 0 ? number(1, 200) : number(1, 5)};
            default:
                return new int[0];
        }
    }

    private int[] randomJob() {
        int from = place();
        int to = place();
        int minute = number(0, 1000);
        return new int[] {from, minute, to, minute + number(0, 300)};
    }

    private String compare(int op) {
        int[] a = arguments(op);
        if (a.length > 0 && random.nextInt(60) == 0) {
            a[upTo(a.length)] = EXTREMES[upTo(EXTREMES.length)];
        }
        return compare(op, a);
    }

    private String compare(int op, int[] a) {
        String got;
        String due;
        try {
            got = String.valueOf(onClass(NAMES[op], a));
        } catch (RuntimeException e) {
            got = e.getClass().getName();
        }
        try {
            due = String.valueOf(onOracle(NAMES[op], a));
        } catch (RuntimeException e) {
            due = e.getClass().getName();
        }
        return got.equals(due) ? null
                : NAMES[op] + java.util.Arrays.toString(a) + " answered " + got + ", due is " + due;
    }

    private long onClass(String name, int[] a) {
        switch (name) {
            case "feed": return x.feed(a[0], a[1], a[2], a[3], a[4]);
            case "land": return x.land(a[0]);
            case "fault": return x.fault();
            case "told": return x.told(a[0]);
            case "way": return x.way(a[0], a[1]);
            case "orders": return x.orders(a[0]);
            case "first": return x.first(a[0], a[1]);
            case "train": return x.train(a[0]);
            case "put": return x.put(a[0], a[1]);
            case "sort": return x.sort(a[0]);
            case "clear": return x.clear(a[0]);
            case "row": return x.row(a[0], a[1]);
            case "error": return x.error(a[0]);
            case "engine": return x.engine(a[0]);
            case "arrives": return x.arrives(a[0]);
            case "worth": return x.worth(a[0]);
            case "best": return x.best(a[0]);
            case "bound": return x.bound();
            case "group": return x.group();
            case "shut": return x.shut(a[0], a[1] == 1) ? 1 : 0;
            case "evening": return x.evening(a[0], a[1]);
            case "hold": return x.hold(a[0], a[1]);
            case "reaches": return x.reaches(a[0], a[1]);
            case "rows": return x.rows(a[0]);
            case "harm": return x.harm(a[0]);
            case "mean": return x.mean();
            case "bestWait": return x.bestWait(a[0]);
            case "settle": return x.settle();
            case "spoil": return x.spoil(a[0], a[1], a[2]);
            case "alike": return x.alike(a[0]) ? 1 : 0;
            case "wrong": return x.wrong(a[0], a[1]);
            case "job": return x.job(a[0], a[1], a[2], a[3]);
            case "behind": return x.behind(a[0], a[1]) ? 1 : 0;
            case "fewest": return x.fewest();
            case "proof": return x.proof();
            case "light": return x.light(a[0], a[1]);
            case "days": return x.days(a[0], a[1]);
            case "cuts": return x.cuts(a[0], a[1]);
            case "why": return x.why(a[0], a[1]);
            case "day": return x.day(a[0]);
            case "run": return x.run(a[0], a[1]);
            case "image": return x.image();
            case "restore": return x.restore();
            default: return x.count(a[0]);
        }
    }

    private long onOracle(String name, int[] a) {
        switch (name) {
            case "feed": return o.feed(a);
            case "land": return o.land(a[0]);
            case "fault": return o.fault();
            case "told": return o.told(a[0]);
            case "way": return o.way(a[0], a[1]);
            case "orders": return o.orders(a[0]);
            case "first": return o.first(a[0], a[1]);
            case "train": return o.train(a[0]);
            case "put": return o.put(a[0], a[1]);
            case "sort": return o.sort(a[0]);
            case "clear": return o.clear(a[0]);
            case "row": return o.row(a[0], a[1]);
            case "error": return o.error(a[0]);
            case "engine": return o.engine(a[0]);
            case "arrives": return o.arrives(a[0]);
            case "worth": return o.worth(a[0]);
            case "best": return o.best(a[0]);
            case "bound": return o.bound();
            case "group": return o.group();
            case "shut": return o.shut(a[0], a[1] == 1) ? 1 : 0;
            case "evening": return o.evening(a[0], a[1]);
            case "hold": return o.hold(a[0], a[1]);
            case "reaches": return o.reaches(a[0], a[1]);
            case "rows": return o.rows(a[0]);
            case "harm": return o.harm(a[0]);
            case "mean": return o.mean();
            case "bestWait": return o.bestWait(a[0]);
            case "settle": return o.settle();
            case "spoil": return o.spoil(a[0], a[1], a[2]);
            case "alike": return o.alike(a[0]) ? 1 : 0;
            case "wrong": return o.wrong(a[0], a[1]);
            case "job": return o.job(a[0], a[1], a[2], a[3]);
            case "behind": return o.behind(a[0], a[1]) ? 1 : 0;
            case "fewest": return o.fewest();
            case "proof": return o.proof();
            case "light": return o.light(a[0], a[1]);
            case "days": return o.days(a[0], a[1]);
            case "cuts": return o.cuts(a[0], a[1]);
            case "why": return o.why(a[0], a[1]);
            case "day": return o.day(a[0]);
            case "run": return o.run(a[0], a[1]);
            case "image": return o.image();
            case "restore": return o.restore();
            default: return o.count(a[0]);
        }
    }
}
