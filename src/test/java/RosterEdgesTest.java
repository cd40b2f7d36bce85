import java.math.BigInteger;

/** The edges that "Terms" ==== 5 and promises 33 to 45 name, sentence by sentence. */
public final class RosterEdgesTest {
    private static final Check check = new Check();
    // Portions 0 and 1 by place 1 to 2 and 3, portion 2 to 1, portion 3 to 4.
    private static final String TREE = "root 60;place 0 10 60;place 1 20 60;place 1 30 60;place 0 5 60;"
            + "portion 2 1;portion 3 1;portion 1 1;portion 4 1;";

    public static void main(String[] args) {
        jobs();
        jobsThatAreRefused();
        behind();
        fewest();
        proof();
        light();
        lightByTheRootAndByShutForks();
        days();
        cuts();
        why();
        whyOfNothing();
        draws();
        run();
        image();
        imageOfAllBut();
        restore();
        count();
        manyCalls();
        check.end("RosterEdgesTest");
    }

    private static void jobs() {
        check.sentence("Promise 33", "A JOB: its number; -1: there are 14.");
        PartingTrains x = Check.of(TREE);
        for (int i = 0; i < 14; i++) {
            check.due("numbered from 0 on", x.job(0, 0, 0, 2879), i);
        }
        check.due("a fifteenth", x.job(0, 0, 0, 1), -1);
        check.due("there are still 14", x.count(2), 14);
        check.illegal("no fifteenth", () -> x.behind(14, 0));
        check.sentence("Terms 5", "to a PLACE at a later MINUTE (0 to 2,879), not less than the WAY later");
        PartingTrains y = Check.of(TREE);
        check.due("from the first minute to the last", y.job(0, 0, 0, 2879), 0);
        check.due("a minute later", y.job(0, 2878, 0, 2879), 1);
        check.due("the way later", y.job(2, 7, 3, 57), 2);
        check.due("the way, at the end", y.job(2, 2829, 3, 2879), 3);
    }

    private static void jobsThatAreRefused() {
        check.sentence("Promise 33", "IndexOutOfBoundsException: PLACES. IllegalArgumentException: the MINUTES.");
        PartingTrains x = Check.of(TREE);
        check.outOfBoundsBeyond("from", 4, place -> x.job(place, 0, 0, 100));
        check.outOfBoundsBeyond("to", 4, place -> x.job(0, 0, place, 100));
        check.outOfBoundsBeyond("from, no minutes", 4, place -> x.job(place, 5, 0, 5));
        check.outOfBoundsBeyond("to, no minutes", 4, place -> x.job(0, -1, place, 2880));
        check.illegalBeyond("minute", 0, 2879, minute -> x.job(0, minute, 0, 2879));
        check.illegalBeyond("end", 0, 2879, end -> x.job(0, 0, 0, end));
        check.illegal("the same minute", () -> x.job(0, 100, 0, 100));
        check.illegal("the last minute", () -> x.job(0, 2879, 0, 2879));
        check.illegal("the first minute", () -> x.job(0, 0, 0, 0));
        check.illegal("an earlier minute", () -> x.job(0, 100, 0, 99));
        check.illegal("less than the way later", () -> x.job(2, 7, 3, 56));
        check.illegal("all numbers wrap", () -> x.job(0, Integer.MAX_VALUE, 0, Integer.MIN_VALUE));
        check.due("none is made", x.count(2), 0);
        for (int i = 0; i < 14; i++) {
            x.job(0, 0, 0, 1);
        }
        check.illegal("refused though there are 14", () -> x.job(0, 0, 0, 2880));
        check.outOfBounds("no place though there are 14", () -> x.job(0, 0, 5, 1));
    }

    private static void behind() {
        check.sentence("Terms 5", "if it can run light from the end of that to where the JOB begins, WAY MINUTES, in time");
        PartingTrains x = Check.of(TREE);
        x.job(0, 0, 2, 30);
        x.job(3, 80, 0, 120);
        x.job(3, 79, 0, 119);
        x.job(2, 30, 2, 31);
        check.due("just in time", x.behind(1, 0), true);
        check.due("a minute too late", x.behind(2, 0), false);
        check.due("where it ends, at once", x.behind(3, 0), true);
        check.due("not ahead", x.behind(0, 1), false);
        check.sentence("Promise 34", "Whether one ENGINE can do a JOB behind another one (not behind itself).");
        for (int job = 0; job < 4; job++) {
            check.due("behind itself", x.behind(job, job), false);
        }
        check.sentence("Promise 34", "IllegalArgumentException: no such JOBS.");
        check.illegalBeyond("behind", 0, 3, job -> x.behind(job, 0));
        check.illegalBeyond("behind another", 0, 3, other -> x.behind(0, other));
        check.illegalBeyond("behind itself", 0, 3, job -> x.behind(job, job));
        check.illegal("no jobs", () -> Check.of(TREE).behind(0, 0));
        check.illegal("no land", () -> new PartingTrains().behind(0, 0));
    }

    private static PartingTrains withJobs(int many, int apart, int length) {
        PartingTrains x = Check.of(TREE);
        for (int i = 0; i < many; i++) {
            x.job(0, apart * i, 0, apart * i + length);
        }
        return x;
    }

    private static void fewest() {
        check.sentence("Terms 5", "FEWEST: ENGINES that do all JOBS.");
        check.due("one job", withJobs(1, 0, 5).fewest(), 1);
        check.due("all at once", withJobs(14, 0, 5).fewest(), 14);
        check.due("one behind the other", withJobs(14, 5, 5).fewest(), 1);
        check.due("each is too late for the next", withJobs(14, 5, 6).fewest(), 2);
        check.due("too late for the next five", withJobs(14, 5, 30).fewest(), 6);
        // If the engine of job 0 did job 2, that of job 1 could do nothing more, and it would take four.
        PartingTrains x = Check.of(TREE);
        x.job(1, 0, 1, 10);
        x.job(0, 0, 0, 10);
        x.job(0, 20, 0, 30);
        x.job(1, 15, 1, 25);
        x.job(3, 40, 3, 41);
        check.due("by a change of the first choice", x.fewest(), 3);
        check.due("of which no two", x.proof(), 0b11010);
        check.sentence("Promise 35", "FEWEST.");
        check.due("no jobs", Check.of(TREE).fewest(), 0);
        check.due("no land", new PartingTrains().fewest(), 0);
    }

    private static void proof() {
        check.sentence("Terms 5", "PROOF: the most JOBS of which no two can be done by one ENGINE: of these sets the least as bits.");
        check.due("one job", withJobs(1, 0, 5).proof(), 1);
        check.due("all at once", withJobs(14, 0, 5).proof(), 16383);
        check.due("one behind the other: the least", withJobs(14, 5, 5).proof(), 1);
        check.due("two that meet: the least", withJobs(14, 5, 6).proof(), 3);
        check.due("six that meet: the least", withJobs(14, 5, 30).proof(), 63);
        // 0 goes with 3 alone, 1 and 2 with one another: 1 and 2 are less than 0 and 3.
        PartingTrains x = Check.of(TREE);
        x.job(0, 500, 0, 510);
        x.job(0, 100, 0, 110);
        x.job(0, 100, 0, 110);
        x.job(0, 500, 0, 510);
        check.due("the least as bits, not as a row", x.proof(), 6);
        check.sentence("Promise 36", "PROOF.");
        check.due("no jobs", Check.of(TREE).proof(), 0);
        check.due("no land", new PartingTrains().proof(), 0);
    }

    private static void light() {
        check.sentence("Terms 5", "LIGHT: k PLACES (1 to 3) where ENGINES wait, so that WAYS from each fork to the nearest of them"
                + " together are least; of these the first (as rising rows).");
        // A line 3 - 1 - 0 - 2, 3, 1 and 3 minutes long: 0 and 3 are as good as 1 and 2, and ahead of them.
        PartingTrains x = Check.of("root 9;place 0 1 9;place 0 3 9;place 1 3 9;fork 0 1 1;fork 1 1 1;fork 2 1 1;fork 3 1 1;");
        check.due("ways", x.light(2, 0), 4);
        check.due("the first as a rising row, not as bits", x.light(2, 1), 0b1001);
        check.due("one", x.light(1, 0), 8);
        check.due("the first of two", x.light(1, 1), 1);
        check.due("three", x.light(3, 0), 1);
        check.due("three places", x.light(3, 1), 0b1101);
        StringBuilder star = new StringBuilder("root 9;" + "place 0 9 9;".repeat(11));
        for (int place = 9; place < 12; place++) {
            star.append("fork ").append(place).append(" 1 1;");
        }
        check.due("the last three of twelve", Check.of(star.toString()).light(3, 1), 0b1110_0000_0000);
        check.due("no forks: the first three", Check.of("root 9;" + "place 0 9 9;".repeat(11)).light(3, 1), 7);
        check.due("no forks: no ways", Check.of("root 9;").light(1, 0), 0);
        check.sentence("Promise 37", "NONE: there are fewer PLACES than k.");
        for (int places = 1; places <= 3; places++) {
            PartingTrains y = Check.of("root 9;" + "place 0 9 9;".repeat(places - 1));
            for (int k = 1; k <= 3; k++) {
                check.due(k + " of " + places, y.light(k, 1), k > places ? PartingTrains.NONE : (1 << k) - 1);
                check.due("ways of " + k + " of " + places, y.light(k, 0), k > places ? PartingTrains.NONE : 0);
            }
        }
        check.due("no land", new PartingTrains().light(1, 1), PartingTrains.NONE);
        check.sentence("Promise 37", "IllegalArgumentException: k, what.");
        check.illegalBeyond("k", 1, 3, k -> x.light(k, 0));
        check.illegalBeyond("what", 0, 1, what -> x.light(1, what));
        check.illegalBeyond("k without a land", 1, 3, k -> new PartingTrains().light(k, 0));
        check.illegalBeyond("what without a land", 0, 1, what -> new PartingTrains().light(1, what));
    }

    private static void lightByTheRootAndByShutForks() {
        check.sentence("Terms 5", "WAYS from each fork to the nearest of them");
        PartingTrains x = Check.of("root 9;place 0 9 9;fork 0 1 1;fork 1 1 1;");
        check.due("the root is one of them", x.light(1, 0), 9);
        x.shut(0, true);
        check.due("one that is shut, too", x.light(1, 0), 9);
        check.due("the first of both", x.light(1, 1), 1);
    }

    private static void days() {
        check.sentence("Promise 38", "DAYS of a PORTION: what they were. IllegalArgumentException: also bits.");
        PartingTrains x = Check.of(TREE);
        check.due("127 at first", x.days(3, 0), 127);
        check.due("none", x.days(3, 127), 0);
        check.due("all", x.days(3, 64), 127);
        check.due("another portion", x.days(0, 1), 127);
        check.illegalBeyond("bits", 0, 127, bits -> x.days(3, bits));
        check.illegalBeyond("portion", 0, 3, portion -> x.days(portion, 0));
        check.due("nothing changes", x.days(3, 0), 64);
    }

    private static void cuts() {
        check.sentence("Terms 5", "it goes on these; a TRAIN's ROW of a day has those alone");
        PartingTrains x = Check.of(TREE);
        x.train(0);
        Check.putAll(x, 0, 0, 1, 2, 3);
        for (int day = 0; day < 7; day++) {
            x.days(2, 1 << day);
            for (int other = 0; other < 7; other++) {
                check.due("cuts of the day " + other, x.cuts(0, other), other == day ? 3 : 2);
            }
        }
        check.sentence("Promise 39", "CUTS of a TRAIN on a day (0 to 6); NONE: it is SHUT IN somewhere.");
        x.clear(0);
        Check.putAll(x, 0, 3, 2, 0);
        x.days(2, 64);
        check.due("shut in behind the root", x.cuts(0, 6), PartingTrains.NONE);
        check.due("not on the day without that", x.cuts(0, 5), 1);
        x.days(0, 0);
        check.due("not without the one behind it", x.cuts(0, 6), 1);
        x.days(3, 0);
        check.due("one is left", x.cuts(0, 6), 0);
        x.days(2, 0);
        check.due("none is left", x.cuts(0, 6), 0);
        check.due("the row stays", Check.row(x, 0), "320");
        check.sentence("Promise 39", "IllegalArgumentException: the day.");
        check.illegalBeyond("cuts", 0, 6, day -> x.cuts(0, day));
        check.noSuchBeyond("cuts", 0, train -> x.cuts(train, 0));
        check.noSuchBeyond("cuts, no day", 0, train -> x.cuts(train, 7));
    }

    private static void why() {
        check.sentence("Terms 5", "people of all WANTS to PLACES behind it (ends, or by which they go) to which PORTIONS go on in"
                + " GROUPS that are not the first one there");
        // Place 5 is behind 2, place 6 behind 3; portion 2 ends at 5 by place 2.
        PartingTrains x = Check.of("root 60;place 0 1 60;place 1 1 60;place 1 1 60;place 0 1 60;place 2 1 60;place 3 1 60;"
                + "portion 3 1;portion 4 1;portion 5 1;portion 1 1;"
                + "want 1 1 0;want 2 2 0;want 3 4 0;want 4 8 0;want 5 16 0;want 6 32 0;want 5 64 0;");
        x.train(0);
        Check.putAll(x, 0, 0, 2, 3, 1);
        int[] due = {8, 2 + 16 + 64, 0, 0, 0, 0, 0};
        for (int place = 0; place < 7; place++) {
            check.due("why " + place, x.why(0, place), due[place]);
        }
        x.clear(0);
        Check.putAll(x, 0, 1, 2, 0, 3);
        // At the root the second group goes by 1 to 2, 3 and 5; nobody goes to 6.
        int[] turned = {1 + 2 + 4 + 16 + 64, 4, 0, 0, 0, 0, 0};
        for (int place = 0; place < 7; place++) {
            check.due("why, turned round " + place, x.why(0, place), turned[place]);
        }
        x.clear(0);
        Check.putAll(x, 0, 2, 3);
        check.due("those that stay are no group", x.why(0, 1), 0);
    }

    private static void whyOfNothing() {
        check.sentence("Terms 5", "(0, if the ROW is SHUT IN somewhere, or does not come there)");
        PartingTrains x = Check.of(TREE + "want 1 1 0;want 2 2 0;want 3 4 0;want 4 8 0;");
        x.train(0);
        check.due("no portions", x.why(0, 0), 0);
        Check.putAll(x, 0, 3, 0, 1);
        check.due("at the root", x.why(0, 0), 7);
        check.due("at place 1", x.why(0, 1), 4);
        check.due("it comes there, to its end", x.why(0, 4), 0);
        x.clear(0);
        Check.putAll(x, 0, 0, 1);
        check.due("it does not come there", x.why(0, 4), 0);
        x.clear(0);
        Check.putAll(x, 0, 3, 2, 1);
        check.due("shut in at place 1, asked at the root", x.why(0, 0), 0);
        x.clear(0);
        Check.putAll(x, 0, 0, 3, 1);
        check.due("shut in at the root, asked at place 1", x.why(0, 1), 0);
        check.sentence("Promise 40", "WHY.");
        check.outOfBoundsBeyond("why", 4, place -> x.why(0, place));
        check.noSuchBeyond("why", 0, train -> x.why(train, 0));
        check.noSuchBeyond("why, no place", 0, train -> x.why(train, 5));
    }

    /** The seed behind one, by numbers that do not wrap. */
    private static int next(int seed) {
        BigInteger all = BigInteger.ONE.shiftLeft(32);
        return BigInteger.valueOf(seed).mod(all).multiply(BigInteger.valueOf(1_103_515_245L))
                .add(BigInteger.valueOf(12_345)).mod(all).intValue();
    }

    private static int draw(int seed) {
        return Math.floorMod(Math.floorDiv(seed, 65_536), 32_768) % 20;
    }

    private static void draws() {
        check.sentence("Terms 5", "those with a chance are late if a DRAW is below N: the SEED (32 bits) becomes itself times"
                + " 1,103,515,245, and 12,345 (it wraps); what its bits 16 to 30 leave by 20");
        int[] seeds = {0, 1, -1, 2, Integer.MIN_VALUE, Integer.MAX_VALUE, 12_345, -1_103_515_245, 1 << 30, 0x7fff0000};
        for (int seed : seeds) {
            int first = draw(next(seed));
            int second = draw(next(next(seed)));
            for (int n = 0; n < 20; n++) {
                PartingTrains x = Check.of("root 9;place 0 1 9;portion 1 1;portion 1 1;late 0 " + n + " 100;late 1 10 7;");
                // Without a chance portion 0 does not draw, so that portion 1 has the first draw.
                int harm = 60 + (n > 0 && first < n ? 100 : 0) + ((n > 0 ? second : first) < 10 ? 7 : 0);
                check.due("day " + seed + " by a chance of " + n, x.day(seed), harm);
            }
        }
        check.sentence("Promise 41", "A DAY by a SEED: its HARM.");
        check.due("no land", new PartingTrains().day(Integer.MIN_VALUE), 0);
        check.due("no portions", Check.of("root 5;").day(7), 0);
    }

    private static void run() {
        check.sentence("Promise 42", "So many DAYS (1 to 200), one behind the other, the SEED going on: all HARM.");
        PartingTrains x = Check.of("root 9;place 0 1 9;portion 1 1;portion 1 1;late 0 10 100;late 1 10 7;");
        int seed = -5;
        int sum = 0;
        for (int day = 1; day <= 200; day++) {
            sum += x.day(seed);
            check.due("days " + day, x.run(-5, day), sum);
            seed = next(next(seed));
        }
        check.sentence("Promise 42", "IllegalArgumentException: DAYS.");
        check.illegalBeyond("run", 1, 200, many -> x.run(1, many));
        check.illegalBeyond("run without a land", 1, 200, many -> new PartingTrains().run(1, many));
    }

    private static void image() {
        check.sentence("Promise 43", "how many there are; -1: there are 3");
        PartingTrains x = Check.of(TREE);
        for (int i = 1; i <= 3; i++) {
            x.train(i);
            check.due("an image", x.image(), i);
        }
        x.train(4);
        check.due("a fourth", x.image(), -1);
        check.due("there are still 3", x.count(4), 3);
        check.due("back to the third", x.restore(), 2);
        check.due("which is as it was", x.count(0), 3);
        check.due("one may come again", x.image(), 3);
    }

    private static void imageOfAllBut() {
        check.sentence("Promise 43", "An IMAGE of all but the LAND, the TAPE and the FAULT");
        PartingTrains x = Check.of(Check.LAND);
        x.train(600);
        x.train(700);
        Check.putAll(x, 0, 1, 0);
        x.job(0, 0, 2, 30);
        x.shut(1, true);
        x.hold(1, 9);
        x.evening(2, 1000);
        x.days(3, 5);
        x.image();
        x.train(800);
        x.clear(0);
        Check.putAll(x, 1, 0, 1, 3);
        x.job(0, 5, 1, 15);
        x.shut(1, false);
        x.shut(0, true);
        x.hold(1, 8);
        x.hold(0, 7);
        x.evening(2, 1001);
        x.days(3, 6);
        Check.tell(x, "root y;");
        Check.feedText(x, "tape");
        check.due("back", x.restore(), 0);
        check.due("the land", x.told(0), 5);
        check.due("the tape", x.count(5), 20);
        check.due("the fault", x.fault(), 5);
        check.due("trains", x.count(0), 2);
        check.due("a row", Check.row(x, 0), "10");
        check.due("the other row", Check.row(x, 1), "");
        check.due("what is in a train", x.put(1, 0), -1);
        check.due("what is in none", x.put(1, 3), 1);
        check.due("jobs", x.count(2), 1);
        check.due("the next job", x.job(0, 120, 0, 121), 1);
        check.due("the first job", x.behind(1, 0), true);
        check.due("shut", x.shut(1, true), true);
        check.due("not shut", x.shut(0, false), false);
        check.due("wait", x.hold(1, 0), 9);
        check.due("no wait", x.hold(0, 0), 0);
        check.due("evening", x.evening(2, 0), 1000);
        check.due("days", x.days(3, 0), 5);
    }

    private static void restore() {
        check.sentence("Promise 44", "All is as in the latest IMAGE, which is gone: how many are left; -1: there is none.");
        PartingTrains x = Check.of(TREE + "engine 0 60;want 4 1 0;");
        check.due("none", x.restore(), -1);
        x.train(0);
        x.image();
        x.put(0, 3);
        x.image();
        x.put(0, 2);
        check.due("the latest", x.restore(), 1);
        check.due("its row", Check.row(x, 0), "3");
        x.clear(0);
        check.due("the one ahead of it", x.restore(), 0);
        check.due("its row", Check.row(x, 0), "");
        check.due("none is left", x.restore(), -1);
        check.due("nothing changes", x.count(0), 1);
        PartingTrains z = Check.of(TREE);
        for (int t = 0; t < 4; t++) {
            z.train(t);
            z.put(t, 3 - t);
        }
        z.job(0, 0, 0, 1);
        z.image();
        for (int t = 0; t < 4; t++) {
            z.clear(t);
            z.job(0, 10 * t, 0, 10 * t + 1);
        }
        Check.putAll(z, 3, 3, 2, 1, 0);
        check.due("two engines for five jobs", z.fewest(), 2);
        z.restore();
        for (int t = 0; t < 4; t++) {
            check.due("the row of " + t, Check.row(z, t), "" + (3 - t));
        }
        z.job(0, 0, 0, 1);
        check.due("two other jobs", z.fewest(), 2);
        check.due("of which no two", z.proof(), 3);
        // What is known of a grouping goes with the trains.
        PartingTrains y = Check.of("root 9;place 0 1 9;portion 1 1;engine 0 9;want 1 1 500;");
        y.train(0);
        check.due("best by the first train", y.best(-1), 50);
        y.image();
        y.train(500);
        check.due("best by the second", y.best(0), 1);
        y.restore();
        check.due("best by the first again", y.best(-1), 50);
        y.train(10);
        check.due("another second", y.best(-1), 51);
    }

    private static void count() {
        check.sentence("Promise 45", "0 TRAINS, 1 PORTIONS in TRAINS, 2 JOBS, 3 forks that are SHUT, 4 IMAGES, 5 bytes of the TAPE;"
                + " NONE for others.");
        PartingTrains x = Check.of("root 60;place 0 1 60;" + "portion 1 1;".repeat(7) + "fork 0 1 1;fork 1 1 1;");
        for (int i = 0; i < 4; i++) {
            x.train(i);
        }
        Check.putAll(x, 0, 0, 1, 2);
        Check.putAll(x, 3, 3, 4, 5, 6);
        for (int i = 0; i < 14; i++) {
            x.job(0, 0, 0, 1);
        }
        x.shut(0, true);
        x.shut(1, true);
        check.due("images", x.image() + x.image() + x.image(), 6);
        Check.feedText(x, " ".repeat(500));
        int[] due = {4, 7, 14, 2, 3, 500};
        for (int what = 0; what < 6; what++) {
            check.due("count " + what, x.count(what), due[what]);
        }
        for (int what : new int[] {-1, 6, 7, 32, 256, Integer.MIN_VALUE, Integer.MAX_VALUE}) {
            check.due("count " + what, x.count(what), PartingTrains.NONE);
        }
    }

    private static void manyCalls() {
        check.sentence("What it is", "An object is used for at most 512 calls after it has been made");
        PartingTrains x = new PartingTrains();
        // Eight calls a round: to tell a land of twenty bytes takes three.
        for (int round = 0; round < 64; round++) {
            check.due("a land", Check.tell(x, "root 20;place 0 1 9;"), 2);
            check.due("a train", x.train(600), 0);
            check.due("an image", x.image(), 1);
            check.due("a job", x.job(0, 0, 0, 1), 0);
            check.due("back", x.restore(), 0);
            check.due("no job", x.count(2), 0);
        }
    }
}
