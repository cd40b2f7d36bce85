/** Promises 21 to 32: what is shut, the evening, harms and waits, spoilt, alike, wrong. */
public final class EveningTest {
    private static final Check check = new Check();
    // Rows come to the fork 1 in the minutes 1100 and 1105.
    private static final String PAIR = "root 20;place 0 10 20;place 1 20 9;place 1 25 9;fork 1 1 2;"
            + "portion 2 1;portion 3 1;";
    // Rows come to the fork 1 in the minutes 1090, 1091, 1092; it takes five carriages.
    private static final String SHORT = "root 20;place 0 10 5;place 1 10 9;place 1 11 9;place 1 12 9;"
            + "fork 1 1 1;portion 2 3;portion 3 3;portion 4 2;";

    public static void main(String[] args) {
        shut();
        evening();
        hold();
        reaches();
        harm();
        late();
        tooLong();
        waitOfTheFirst();
        joinTwice();
        leastPortionAhead();
        mean();
        bestWait();
        settle();
        spoil();
        alike();
        wrong();
        check.end("EveningTest");
    }

    private static void shut() {
        PartingTrains x = Check.of(Check.LAND);
        check.due("open at first", x.shut(1, true), false);
        check.due("count", x.count(3), 1);
        check.due("shut", x.shut(1, true), true);
        check.due("the root", x.shut(0, true), false);
        check.due("count", x.count(3), 2);
        check.due("shut", x.shut(1, false), true);
        check.due("open", x.shut(1, false), false);
        check.due("count", x.count(3), 1);
        check.illegal("no fork", () -> x.shut(2, true));
        check.outOfBounds("no place", () -> x.shut(5, true));
        check.outOfBounds("a place below", () -> x.shut(-1, false));
        PartingTrains y = Check.of(PAIR);
        y.hold(1, 60);
        check.due("they join", y.rows(0), 1);
        y.shut(1, true);
        check.due("at a shut fork none joins", y.rows(0), 2);
        check.due("nor waits", y.reaches(0, 0), 1110);
        check.illegal("the root is no fork unless told", () -> y.shut(0, true));
    }

    private static void evening() {
        PartingTrains x = Check.of(PAIR);
        check.due("at first", x.evening(0, 1085), 1080);
        check.due("then", x.evening(0, 0), 1085);
        check.due("then", x.evening(0, 1439), 0);
        check.due("reaches", x.reaches(0, 0), 1469);
        check.due("the other", x.reaches(1, 0), 1115);
        check.illegal("no portion", () -> x.evening(2, 0));
        check.illegal("a portion below", () -> x.evening(-1, 0));
        check.illegal("no minute", () -> x.evening(0, 1440));
        check.illegal("a minute below", () -> x.evening(0, -1));
        check.due("it stays", x.evening(0, 5), 1439);
    }

    private static void hold() {
        PartingTrains x = Check.of(Check.LAND);
        check.due("at first", x.hold(1, 60), 0);
        check.due("then", x.hold(1, 7), 60);
        check.due("the root", x.hold(0, 8), 0);
        check.illegal("too long", () -> x.hold(1, 61));
        check.illegal("below", () -> x.hold(1, -1));
        check.illegal("no fork", () -> x.hold(2, 5));
        check.outOfBounds("no place", () -> x.hold(5, 5));
        check.outOfBounds("no place, no wait", () -> x.hold(-1, 61));
        check.due("it stays", x.hold(1, 0), 7);
    }

    private static void reaches() {
        PartingTrains x = Check.of(Check.LAND);
        int[] alone = {1110, 1120, 1090, 1085};
        int[] byTen = {1124, 1124, 1090, 1085};
        int[] byTwenty = {1114, 1120, 1114, 1085};
        int[] byThirty = {1128, 1128, 1128, 1085};
        int[][] due = {alone, byTen, byTwenty, byThirty};
        for (int i = 0; i < 4; i++) {
            x.hold(1, 10 * i);
            for (int p = 0; p < 4; p++) {
                check.due("reaches " + p + " by a wait of " + 10 * i, x.reaches(p, 0), due[i][p]);
            }
        }
        check.illegal("no portion", () -> x.reaches(4, 0));
        check.illegal("a portion below", () -> x.reaches(-1, 0));
        check.illegal("no bits", () -> x.reaches(0, 16));
        check.illegal("bits below", () -> x.reaches(0, -1));
    }

    private static void harm() {
        PartingTrains x = Check.of(Check.LAND);
        int[] rows = {4, 3, 3, 2};
        int[] harms = {180, 196, 184, 248};
        for (int i = 0; i < 4; i++) {
            x.hold(1, 10 * i);
            check.due("rows by a wait of " + 10 * i, x.rows(0), rows[i]);
            check.due("harm by a wait of " + 10 * i, x.harm(0), harms[i]);
        }
        check.illegal("rows of no bits", () -> x.rows(16));
        check.illegal("rows of bits below", () -> x.rows(-1));
        check.illegal("harm of no bits", () -> x.harm(16));
        check.illegal("harm of bits below", () -> x.harm(Integer.MIN_VALUE));
        check.due("no portions", Check.of("root 5;").harm(0), 0);
    }

    private static void late() {
        PartingTrains x = Check.of(Check.LAND);
        check.due("of one minute the least portion is ahead", x.rows(1), 3);
        check.due("reaches", x.reaches(0, 1), 1124);
        check.due("reaches", x.reaches(1, 1), 1124);
        int[] harms = {180, 196, 280, 320};
        for (int late = 0; late < 4; late++) {
            check.due("harm if late " + late, x.harm(late), harms[late]);
        }
        check.due("one that is never late", x.harm(4), 180);
        x.hold(0, 60);
        check.due("nothing joins at the root", x.rows(0), 4);
        PartingTrains y = Check.of(PAIR.replace("portion 3 1;", "portion 3 1;late 1 0 7;"));
        check.due("late without a chance", y.reaches(1, 2), 1122);
        check.due("the last late counts",
                Check.of(PAIR + "late 0 3 9;late 0 4 11;").reaches(0, 1), 1121);
    }

    private static void tooLong() {
        PartingTrains x = Check.of(SHORT);
        x.hold(1, 5);
        check.due("rows", x.rows(0), 2);
        check.due("the first", x.reaches(0, 0), 1103);
        check.due("the second is too long", x.reaches(1, 0), 1101);
        check.due("the third joins", x.reaches(2, 0), 1103);
    }

    private static void waitOfTheFirst() {
        PartingTrains x = Check.of(SHORT.replace("10 5;", "10 50;"));
        x.hold(1, 1);
        check.due("rows", x.rows(0), 2);
        check.due("the second joins the first", x.reaches(0, 0), 1102);
        check.due("the third comes too late for it", x.reaches(2, 0), 1102);
        x.hold(1, 2);
        check.due("one row", x.rows(0), 1);
        check.due("two join", x.reaches(1, 0), 1104);
    }

    private static void joinTwice() {
        PartingTrains x = Check.of("root 20;place 0 10 20;place 1 10 20;place 2 5 20;fork 1 1 3;fork 2 1 2;"
                + "portion 3 1;portion 2 2;portion 1 4;");
        x.evening(1, 1085);
        x.evening(2, 1097);
        check.due("join at the first fork, come as the third starts", x.rows(0), 1);
        check.due("reaches", x.reaches(0, 0), 1110);
        check.due("reaches", x.reaches(2, 0), 1110);
        x.train(0);
        Check.putAll(x, 0, 2, 1, 0);
        check.due("the row", x.alike(0), true);
    }

    private static void leastPortionAhead() {
        PartingTrains x = Check.of("root 20;place 0 10 20;place 1 10 20;fork 1 1 3;fork 2 1 2;"
                + "portion 2 1;portion 1 2;portion 2 4;");
        x.hold(2, 5);
        x.evening(0, 1081);
        x.evening(1, 1093);
        x.train(0);
        Check.putAll(x, 0, 1, 0, 2);
        check.due("they come in one minute", x.rows(0), 1);
        check.due("of the rows that with the least portion is ahead", x.alike(0), true);
        check.due("reaches", x.reaches(1, 0), 1106);
    }

    private static void mean() {
        PartingTrains x = Check.of(Check.LAND);
        check.due("mean", x.mean(), 94800);
        x.hold(1, 10);
        check.due("mean", x.mean(), 97200);
        x.hold(1, 20);
        check.due("mean", x.mean(), 98800);
        check.due("without chances", Check.of(PAIR).mean(), 60);
        check.due("a chance of none", Check.of(PAIR + "late 0 0 5;").mean(), 60);
        StringBuilder text = new StringBuilder("root 9;place 0 240 9;");
        for (int p = 0; p < 7; p++) {
            text.append("portion 1 15;late ").append(p).append(" 19 120;");
        }
        // Seven together: 60 times six for the rows, and 1800 times 19 by 20 for each.
        check.due("beyond an int", Check.of(text.toString()).mean(), 360L * 1_280_000_000L + 7L * 1800 * 19 * 64_000_000L);
    }

    private static void bestWait() {
        PartingTrains x = Check.of(Check.LAND);
        x.hold(1, 20);
        check.due("best to wait not at all", x.bestWait(1), 0);
        check.due("nothing joins at the root", x.bestWait(0), 0);
        check.due("the wait stays", x.hold(1, 20), 20);
        check.illegal("no fork", () -> x.bestWait(2));
        check.outOfBounds("no place", () -> x.bestWait(5));
        check.outOfBounds("a place below", () -> x.bestWait(-1));
        PartingTrains y = Check.of(PAIR);
        check.due("the least of the best", y.bestWait(1), 5);
        y.evening(1, 1081);
        check.due("six minutes", y.bestWait(1), 10);
        y.evening(1, 1106);
        check.due("31 minutes", y.bestWait(1), 35);
        y.evening(1, 1080 + 55);
        check.due("sixty minutes: 62 and 2 are more than 60", y.bestWait(1), 0);
        y.evening(1, 1080 + 50);
        check.due("55 minutes: 57 and 2 are less than 60", y.bestWait(1), 55);
        y.shut(1, true);
        check.due("a shut fork", y.bestWait(1), 0);
    }

    private static void settle() {
        PartingTrains x = Check.of(PAIR);
        check.due("settle", x.settle(), 1);
        check.due("the wait", x.hold(1, 5), 5);
        check.due("harm", x.harm(0), 9);
        check.due("settle again", x.settle(), 0);
        x.shut(1, true);
        check.due("a shut fork needs none", x.settle(), 1);
        check.due("the wait", x.hold(1, 0), 0);
        PartingTrains y = Check.of(Check.LAND);
        y.hold(0, 3);
        y.hold(1, 4);
        check.due("two are settled", y.settle(), 2);
    }

    private static void spoil() {
        PartingTrains x = Check.of(Check.LAND);
        x.hold(1, 10);
        check.due("a little", x.spoil(0, 5, 0), 0);
        check.due("more", x.spoil(0, 20, 0), 1);
        check.due("spread", x.spoil(0, 20, 1), 10);
        check.due("too much to wait for", x.spoil(0, 21, 0), 0);
        check.due("none", x.spoil(0, 0, 1), 0);
        check.due("most", x.spoil(3, 240, 1), 0);
        check.illegal("too late", () -> x.spoil(0, 241, 0));
        check.illegal("below", () -> x.spoil(0, -1, 0));
        check.illegal("no portion", () -> x.spoil(4, 0, 0));
        check.illegal("a portion below", () -> x.spoil(-1, 0, 0));
        check.illegal("no such what", () -> x.spoil(0, 0, 2));
        check.illegal("what below", () -> x.spoil(0, 0, -1));
        PartingTrains y = Check.of(SHORT.replace("10 5;", "10 50;"));
        y.hold(1, 5);
        check.due("two are spoilt", y.spoil(0, 5, 0), 2);
        check.due("by three minutes each", y.spoil(0, 5, 1), 6);
    }

    private static void alike() {
        PartingTrains x = Check.of(Check.LAND);
        x.hold(1, 10);
        x.train(600);
        x.train(600);
        check.due("an empty train", x.alike(0), false);
        Check.putAll(x, 0, 1);
        check.due("not alone", x.alike(0), false);
        Check.putAll(x, 0, 0);
        check.due("turned round", x.alike(0), true);
        x.hold(1, 20);
        check.due("not with another wait", x.alike(0), false);
        x.hold(1, 10);
        x.clear(0);
        Check.putAll(x, 0, 0, 1);
        check.due("not as it stands", x.alike(0), false);
        x.clear(0);
        Check.putAll(x, 0, 2, 1, 0);
        check.due("too many", x.alike(0), false);
        Check.putAll(x, 1, 3);
        check.due("one alone", x.alike(1), true);
        check.noSuch("no train", () -> x.alike(2));
        check.noSuch("a train below", () -> x.alike(-1));
    }

    private static void wrong() {
        PartingTrains x = Check.of(Check.LAND);
        x.train(600);
        check.due("an empty train", x.wrong(0, 0), 0);
        Check.putAll(x, 0, 0);
        check.due("one alone", x.wrong(0, 0), 0);
        Check.putAll(x, 0, 1, 2);
        check.due("three", x.wrong(0, 90), 381);
        check.due("no signs", x.wrong(0, 0), 3818);
        check.due("right signs", x.wrong(0, 100), 0);
        check.illegal("signs below", () -> x.wrong(0, -1));
        check.illegal("signs beyond", () -> x.wrong(0, 101));
        check.noSuch("no train", () -> x.wrong(1, 0));
        check.noSuch("no train, no signs", () -> x.wrong(-1, 101));
    }
}
