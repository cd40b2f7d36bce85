/** Promises 33 to 45: jobs, light engines, days, what joints are for, days by seed, images, counts. */
public final class RosterTest {
    private static final Check check = new Check();

    public static void main(String[] args) {
        job();
        behind();
        fewest();
        proof();
        light();
        days();
        cuts();
        why();
        day();
        run();
        images();
        count();
        check.end("RosterTest");
    }

    private static void job() {
        PartingTrains x = Check.of(Check.LAND);
        check.due("a job", x.job(0, 100, 1, 110), 0);
        check.due("to the same place", x.job(0, 0, 0, 1), 1);
        check.due("late", x.job(0, 2878, 0, 2879), 2);
        check.illegal("too fast", () -> x.job(0, 100, 1, 109));
        check.illegal("no minute later", () -> x.job(0, 100, 0, 100));
        check.illegal("earlier", () -> x.job(0, 100, 0, 99));
        check.illegal("a minute below", () -> x.job(0, -1, 0, 5));
        check.illegal("too late", () -> x.job(0, 0, 0, 2880));
        check.illegal("far too late", () -> x.job(0, Integer.MIN_VALUE, 0, Integer.MAX_VALUE));
        check.outOfBounds("no place", () -> x.job(5, 0, 0, 5));
        check.outOfBounds("no place", () -> x.job(0, 0, -1, 5));
        check.outOfBounds("no place, no minutes", () -> x.job(0, 9, 5, 5));
        for (int i = 3; i < 14; i++) {
            check.due("a job", x.job(0, 100, 1, 110), i);
        }
        check.due("a fifteenth", x.job(0, 100, 1, 110), -1);
        check.illegal("a fifteenth, too fast", () -> x.job(0, 100, 1, 109));
        check.due("count", x.count(2), 14);
        check.due("all at once but three", x.fewest(), 12);
    }

    private static void behind() {
        PartingTrains x = Check.of(Check.LAND);
        x.job(0, 100, 1, 110);
        x.job(2, 130, 1, 150);
        x.job(2, 129, 1, 150);
        check.due("in time", x.behind(1, 0), true);
        check.due("not in time", x.behind(2, 0), false);
        check.due("not the other way", x.behind(0, 1), false);
        check.due("not behind itself", x.behind(0, 0), false);
        check.illegal("no job", () -> x.behind(3, 0));
        check.illegal("no other", () -> x.behind(0, 3));
        check.illegal("a job below", () -> x.behind(-1, 0));
        check.illegal("another below", () -> x.behind(0, -1));
    }

    private static void fewest() {
        PartingTrains x = Check.of(Check.LAND);
        check.due("none", x.fewest(), 0);
        x.job(0, 100, 1, 110);
        check.due("one", x.fewest(), 1);
        x.job(1, 110, 0, 120);
        check.due("one behind it", x.fewest(), 1);
        x.job(0, 100, 1, 110);
        check.due("one beside it", x.fewest(), 2);
        x.job(0, 120, 1, 130);
        check.due("one behind these", x.fewest(), 2);
    }

    private static void proof() {
        PartingTrains x = Check.of(Check.LAND);
        check.due("none", x.proof(), 0);
        x.job(0, 100, 1, 110);
        x.job(1, 110, 0, 120);
        check.due("the least", x.proof(), 1);
        x.job(0, 100, 1, 110);
        x.job(0, 120, 1, 130);
        check.due("two that can't", x.proof(), 5);
        PartingTrains y = Check.of(Check.LAND);
        y.job(0, 200, 0, 210);
        y.job(0, 100, 0, 110);
        y.job(0, 205, 0, 215);
        y.job(0, 105, 0, 115);
        check.due("of two proofs the least", y.proof(), 5);
        y.job(0, 207, 0, 209);
        check.due("three", y.proof(), 21);
        check.due("three engines", y.fewest(), 3);
    }

    private static void light() {
        PartingTrains x = Check.of(Check.LAND);
        check.due("one place", x.light(1, 0), 10);
        check.due("the first of equals", x.light(1, 1), 1);
        check.due("two places", x.light(2, 0), 0);
        check.due("two places", x.light(2, 1), 3);
        check.due("three places", x.light(3, 1), 7);
        check.illegal("no places", () -> x.light(0, 0));
        check.illegal("four places", () -> x.light(4, 0));
        check.illegal("no such what", () -> x.light(1, 2));
        check.illegal("what below", () -> x.light(1, -1));
        PartingTrains y = Check.of("root 9;place 0 1 1;fork 1 1 1;");
        check.due("fewer places", y.light(3, 0), -1);
        check.due("fewer places", y.light(3, 1), -1);
        check.due("as many", y.light(2, 1), 3);
        check.due("at the fork", y.light(1, 1), 2);
        check.illegal("no such what ahead of fewer places", () -> y.light(3, 2));
        y.shut(1, true);
        check.due("a shut fork too", y.light(1, 1), 2);
        PartingTrains z = Check.of("root 9;place 0 9 1;place 0 9 1;place 1 5 1;place 2 5 1;"
                + "fork 1 1 1;fork 2 1 1;fork 3 1 1;fork 4 1 1;");
        check.due("two of four", z.light(2, 0), 10);
        check.due("two of four", z.light(2, 1), 6);
        check.due("three of four", z.light(3, 1), 14);
        check.due("no forks", Check.of("root 9;").light(1, 1), 1);
    }

    private static void days() {
        PartingTrains x = Check.of(Check.LAND);
        check.due("at first", x.days(0, 0), 127);
        check.due("then", x.days(0, 127), 0);
        check.illegal("too many", () -> x.days(0, 128));
        check.illegal("below", () -> x.days(0, -1));
        check.illegal("no portion", () -> x.days(4, 1));
        check.illegal("a portion below", () -> x.days(-1, 1));
        check.due("it stays", x.days(0, 5), 127);
    }

    private static void cuts() {
        PartingTrains x = Check.of(Check.LAND);
        x.train(600);
        check.due("an empty train", x.cuts(0, 0), 0);
        Check.putAll(x, 0, 0, 1, 2, 3);
        check.due("all", x.cuts(0, 0), 3);
        x.days(2, 126);
        check.due("one left out", x.cuts(0, 0), 2);
        check.due("on another day", x.cuts(0, 6), 3);
        x.clear(0);
        Check.putAll(x, 0, 2, 0);
        check.due("shut in", x.cuts(0, 6), -1);
        check.due("not on that day", x.cuts(0, 0), 0);
        x.days(0, 126);
        check.due("none goes", x.cuts(0, 0), 0);
        check.illegal("no day", () -> x.cuts(0, 7));
        check.illegal("a day below", () -> x.cuts(0, -1));
        check.noSuch("no train", () -> x.cuts(1, 0));
        check.noSuch("no train, no day", () -> x.cuts(-1, 7));
    }

    private static void why() {
        PartingTrains x = Check.of(Check.LAND);
        x.train(600);
        check.due("an empty train", x.why(0, 0), 0);
        Check.putAll(x, 0, 0, 1, 2, 3);
        int[] due = {10, 50, 0, 0, 0};
        for (int place = 0; place < 5; place++) {
            check.due("why " + place, x.why(0, place), due[place]);
        }
        x.clear(0);
        Check.putAll(x, 0, 3, 1, 0, 2);
        check.due("all behind", x.why(0, 0), 150);
        check.due("the other one", x.why(0, 1), 100);
        x.clear(0);
        Check.putAll(x, 0, 3, 2, 0);
        check.due("shut in further on", x.why(0, 0), 0);
        x.clear(0);
        Check.putAll(x, 0, 3);
        check.due("it does not come there", x.why(0, 1), 0);
        x.days(3, 0);
        x.clear(0);
        Check.putAll(x, 0, 0, 3);
        check.due("days don't count", x.why(0, 0), 10);
        check.noSuch("no train", () -> x.why(1, 0));
        check.noSuch("no train, no place", () -> x.why(-1, 9));
        check.outOfBounds("no place", () -> x.why(0, 5));
        check.outOfBounds("a place below", () -> x.why(0, -1));
        PartingTrains y = Check.of("root 9;place 0 1 9;place 1 1 9;place 1 1 9;place 2 1 9;place 0 1 9;"
                + "portion 1 1;portion 4 1;portion 5 1;portion 3 1;"
                + "want 2 5 1;want 2 6 1;want 3 7 1;want 1 8 1;want 4 9 1;want 5 100 1;");
        y.train(0);
        Check.putAll(y, 0, 1, 0);
        check.due("the first group counts nothing", y.why(0, 0), 0);
        check.due("nor those that stay", y.why(0, 1), 0);
        y.clear(0);
        Check.putAll(y, 0, 2, 1);
        check.due("places by which they go count too", y.why(0, 0), 28);
        y.clear(0);
        Check.putAll(y, 0, 3, 1);
        check.due("the place itself does not", y.why(0, 1), 20);
    }

    private static void day() {
        PartingTrains x = Check.of(Check.LAND);
        // The draws behind the seed 1 leave 18, 18, 13, 15, 11, 7 by 20.
        check.due("a day", x.day(1), 180);
        check.due("two days", x.run(1, 2), 360);
        check.due("three days", x.run(1, 3), 640);
        check.due("one day", x.run(1, 1), 180);
        check.illegal("no days", () -> x.run(1, 0));
        check.illegal("too many days", () -> x.run(1, 201));
        check.illegal("days below", () -> x.run(1, -1));
        long late = 0;
        for (int i = 0; i < 200; i++) {
            late += x.day(i * 7919 - 500_000) > 180 ? 1 : 0;
        }
        check.due("some days are late, some not", late > 40 && late < 180, true);
        check.due("no chances", Check.of("root 5;place 0 5 5;portion 1 1;late 0 0 50;").run(7, 200), 0);
    }

    private static void run() {
        PartingTrains z = Check.of(Check.LAND + "late 2 0 30;late 3 19 7;");
        int seed = -77;
        int sum = 0;
        for (int i = 0; i < 200; i++) {
            int late = 0;
            int[] chances = {5, 10, 0, 19};
            for (int p = 0; p < 4; p++) {
                if (chances[p] > 0) {
                    seed = seed * 1103515245 + 12345;
                    late |= (seed >> 16 & 32767) % 20 < chances[p] ? 1 << p : 0;
                }
            }
            sum += z.harm(late);
        }
        check.due("two hundred days", z.run(-77, 200), sum);
    }

    private static void images() {
        PartingTrains x = Check.of(Check.LAND);
        check.due("none", x.restore(), -1);
        x.train(600);
        Check.putAll(x, 0, 1, 0);
        x.job(0, 0, 0, 1);
        x.shut(1, true);
        x.hold(1, 9);
        x.days(2, 5);
        x.evening(3, 7);
        check.due("an image", x.image(), 1);
        check.due("best of the image", x.best(-1), -2);
        x.train(700);
        x.clear(0);
        Check.putAll(x, 1, 0);
        x.job(0, 0, 0, 2);
        x.shut(1, false);
        x.hold(1, 0);
        x.days(2, 6);
        x.evening(3, 8);
        check.due("best now", x.best(-1), 16000);
        check.due("a second", x.image(), 2);
        check.due("a third", x.image(), 3);
        check.due("a fourth", x.image(), -1);
        Check.feedText(x, "tape");
        check.due("back to the third", x.restore(), 2);
        check.due("back to the second", x.restore(), 1);
        check.due("trains", x.count(0), 2);
        check.due("back to the first", x.restore(), 0);
        check.due("trains", x.count(0), 1);
        check.due("row", x.row(0, 0), 1);
        check.due("row", x.row(0, 1), 0);
        check.due("jobs", x.count(2), 1);
        check.due("best as then", x.best(-1), -2);
        check.due("shut", x.shut(1, false), true);
        check.due("wait", x.hold(1, 0), 9);
        check.due("days", x.days(2, 0), 5);
        check.due("evening", x.evening(3, 0), 7);
        check.due("the tape stays", x.count(5), 20);
        check.due("put knows who is in", x.put(0, 0), -1);
        check.due("no more", x.restore(), -1);
        PartingTrains y = new PartingTrains();
        check.due("an image without a land", y.image(), 1);
        check.due("back", y.restore(), 0);
    }

    private static void count() {
        PartingTrains x = Check.of(Check.LAND);
        x.train(600);
        x.train(600);
        Check.putAll(x, 1, 1, 0, 2);
        x.job(0, 0, 0, 1);
        x.shut(1, true);
        x.image();
        Check.feedText(x, "x");
        int[] due = {2, 3, 1, 1, 1, 20};
        for (int what = 0; what < 6; what++) {
            check.due("count " + what, x.count(what), due[what]);
        }
        check.due("another", x.count(6), -1);
        check.due("below", x.count(-1), -1);
        check.due("far below", x.count(Integer.MIN_VALUE), -1);
    }
}
