/** The edges that "Terms" ==== 4 and promises 21 to 32 name, sentence by sentence. */
public final class EveningEdgesTest {
    private static final Check check = new Check();
    // Rows come to the fork 1 in the minutes 1100 and 1105, and would reach the root ten minutes later.
    private static final String PAIR = "root 20;place 0 10 20;place 1 20 9;place 1 25 9;fork 1 1 2;"
            + "portion 2 1;portion 3 1;";
    // Each portion starts at the fork 1 itself, which takes five carriages; ten minutes to the root.
    private static final String SHORT = "root 60;place 0 10 5;fork 1 1 7;portion 1 3;portion 1 3;portion 1 2;portion 1 1;";

    public static void main(String[] args) {
        shut();
        startsAtAMinute();
        late();
        beyondMidnight();
        orderOfOneMinute();
        atAFork();
        theRootIsNone();
        elsewhere();
        waits();
        carriages();
        nextRow();
        leavesBehindTheLast();
        hold();
        reachesAndRows();
        harm();
        mean();
        bestWait();
        bestWaitByChances();
        otherWaitsAsTheyAre();
        settle();
        spoil();
        alike();
        wrong();
        wrongAtItsMost();
        check.end("EveningEdgesTest");
    }

    /** What all portions reach, as a text. */
    private static String reach(PartingTrains x, int late) {
        StringBuilder all = new StringBuilder();
        for (int p = 0; p < x.told(1); p++) {
            all.append(p == 0 ? "" : " ").append(x.reaches(p, late));
        }
        return all.toString();
    }

    private static PartingTrains starting(String land, int... minutes) {
        PartingTrains x = Check.of(land);
        for (int p = 0; p < minutes.length; p++) {
            x.evening(p, minutes[p]);
        }
        return x;
    }

    private static void shut() {
        check.sentence("Promise 21", "A fork is SHUT, or not: whether it was.");
        PartingTrains x = Check.of(Check.LAND);
        check.due("open at first", x.shut(1, false), false);
        check.due("still open", x.shut(1, true), false);
        check.due("shut", x.shut(1, true), true);
        check.due("one is shut", x.count(3), 1);
        check.due("still shut", x.shut(1, false), true);
        check.due("open again", x.shut(1, false), false);
        check.due("none is shut", x.count(3), 0);
        check.sentence("Promise 21", "IllegalArgumentException: it is no fork.");
        for (int place = 2; place < 5; place++) {
            int none = place;
            check.illegal("no fork " + place, () -> x.shut(none, true));
            check.illegal("no fork to open " + place, () -> x.shut(none, false));
        }
        check.outOfBoundsBeyond("shut", 4, place -> x.shut(place, true));
        check.illegal("a root that is no fork", () -> Check.of(PAIR).shut(0, true));
    }

    private static void startsAtAMinute() {
        check.sentence("Terms 4", "starts from its end at a told MINUTE (0 to 1,439; 1,080 at first)");
        PartingTrains x = Check.of(PAIR);
        check.due("at first", reach(x, 0), "1110 1115");
        check.sentence("Promise 22", "The MINUTE at which a PORTION starts in the EVENING: what it was.");
        check.due("at first", x.evening(1, 0), 1080);
        check.due("the first minute", x.evening(1, 1439), 0);
        check.due("the other is as it was", reach(x, 0), "1110 1474");
        check.due("the last minute", x.evening(1, 1080), 1439);
        check.due("alike again", reach(x, 0), "1110 1115");
        check.sentence("Promise 22", "IllegalArgumentException: also the MINUTE.");
        check.illegalBeyond("minute", 0, 1439, minute -> x.evening(0, minute));
        check.illegalBeyond("portion", 0, 1, portion -> x.evening(portion, 0));
        check.due("nothing changes", x.evening(0, 1080), 1080);
    }

    private static void late() {
        check.sentence("Terms 4", "D later if it is late");
        PartingTrains x = Check.of(PAIR + "late 0 19 120;late 1 0 1;");
        check.due("none", reach(x, 0), "1110 1115");
        check.due("the first", reach(x, 1), "1230 1115");
        check.due("the second, without a chance", reach(x, 2), "1110 1116");
        check.due("both", reach(x, 3), "1230 1116");
        check.due("one of which no lateness is told", reach(Check.of(PAIR), 3), "1110 1115");
    }

    private static void beyondMidnight() {
        check.sentence("Terms 4", "REACHES: the MINUTE at which a PORTION comes to the root");
        StringBuilder line = new StringBuilder("root 5;");
        for (int p = 0; p < 11; p++) {
            line.append("place ").append(p).append(" 240 5;");
        }
        PartingTrains x = starting(line + "portion 11 15;late 0 1 120;", 1439);
        check.due("far behind midnight", x.reaches(0, 1), 1439 + 120 + 2640);
        check.due("alone", x.reaches(0, 0), 4079);
        check.due("alone is no harm", x.harm(0), 0);
        check.due("late alone", x.harm(1), 1800);
    }

    /** Whether the only row at the root is this one. */
    private static boolean comesAs(PartingTrains x, int... row) {
        x.train(0);
        for (int i = row.length - 1; i >= 0; i--) {
            x.put(0, row[i]);
        }
        boolean is = x.alike(0);
        x.clear(0);
        return is;
    }

    private static void orderOfOneMinute() {
        check.sentence("Terms 4", "They go on in the order in which they come, of those of one MINUTE that with the least"
                + " PORTION ahead.");
        String land = SHORT.replace("10 5", "10 50");
        PartingTrains x = starting(land, 1080, 1080, 1080, 1080);
        check.due("of one minute", comesAs(x, 0, 1, 2, 3), true);
        x.hold(1, 60);
        x.evening(0, 1082);
        x.evening(2, 1081);
        check.due("of three minutes", comesAs(x, 1, 3, 2, 0), true);
        // Row 2 0 comes with row 1: the least portion of it, not its first one, is ahead.
        PartingTrains y = starting("root 20;place 0 10 20;place 1 10 20;fork 1 1 3;fork 2 1 2;"
                + "portion 2 1;portion 1 2;portion 2 4;", 1081, 1093, 1080);
        y.hold(2, 1);
        check.due("one row", y.rows(0), 1);
        check.due("with the least portion", comesAs(y, 2, 0, 1), true);
    }

    private static void atAFork() {
        check.sentence("Terms 4", "At a fork (one that is not SHUT; the root is none)");
        PartingTrains x = Check.of(PAIR);
        x.hold(1, 60);
        check.due("open", reach(x, 0), "1117 1117");
        x.shut(1, true);
        check.due("shut", reach(x, 0), "1110 1115");
        check.due("rows", x.rows(0), 2);
        x.shut(1, false);
        check.due("open again", x.rows(0), 1);
    }

    private static void theRootIsNone() {
        check.sentence("Terms 4", "the root is none");
        PartingTrains x = Check.of("root 60;place 0 10 20;fork 0 1 1;portion 1 1;portion 1 1;");
        x.hold(0, 60);
        check.due("rows of one minute at the root", x.rows(0), 2);
        check.due("they don't wait there", reach(x, 0), "1090 1090");
        check.due("its best wait", x.bestWait(0), 0);
        check.due("it is settled", x.settle(), 1);
        check.due("by no wait", x.hold(0, 0), 0);
    }

    private static void elsewhere() {
        check.sentence("Terms 4", "elsewhere each leaves when it comes");
        PartingTrains x = Check.of(PAIR.replace("fork 1", "fork 2"));
        x.evening(1, 1075);
        x.hold(2, 60);
        check.due("of one minute, but no fork", reach(x, 0), "1110 1110");
        check.due("rows", x.rows(0), 2);
    }

    private static void waits() {
        check.sentence("Terms 4", "that comes no more than WAIT MINUTES (0 to 60; 0 at first) behind it");
        PartingTrains x = starting(PAIR, 1080, 1075);
        check.due("no wait, of one minute", reach(x, 0), "1112 1112");
        x.evening(1, 1076);
        check.due("no wait, a minute behind", reach(x, 0), "1110 1111");
        x.hold(1, 1);
        check.due("a minute", reach(x, 0), "1113 1113");
        x.hold(1, 60);
        x.evening(1, 1135);
        check.due("sixty minutes", reach(x, 0), "1172 1172");
        x.evening(1, 1136);
        check.due("61 minutes", reach(x, 0), "1110 1171");
        x.hold(1, 59);
        x.evening(1, 1135);
        check.due("sixty minutes, a wait of 59", reach(x, 0), "1110 1170");
        // It waits for those behind it, not for those ahead of it.
        PartingTrains y = starting(SHORT.replace("10 5", "10 50"), 1080, 1084, 1088, 1092);
        y.hold(1, 8);
        check.due("behind the first of them, not the last that joined", reach(y, 0), "1112 1112 1112 1102");
    }

    private static void carriages() {
        check.sentence("Terms 4", "and with which CARRIAGES are not more than L");
        PartingTrains x = starting(SHORT, 1080, 1081, 1082, 1083);
        x.hold(1, 60);
        // 3 and 2 are five; 3 and 3 would be six; behind five none joins, but behind 3 one does.
        check.due("five fit", reach(x, 0), "1099 1100 1099 1100");
        check.due("rows", x.rows(0), 2);
        x.evening(2, 1084);
        check.due("3 and 1 fit, then 2 no more", reach(x, 0), "1100 1101 1101 1100");
        // A row of more than L comes by.
        PartingTrains y = Check.of("root 60;place 0 10 1;fork 1 1 7;portion 1 2;portion 1 1;");
        check.due("longer than the platform", reach(y, 0), "1090 1090");
    }

    private static void nextRow() {
        check.sentence("Terms 4", "the next ROW that has not gone on JOINS others");
        PartingTrains x = starting(SHORT.replace("10 5", "10 50"), 1080, 1086, 1088, 1092);
        x.hold(1, 5);
        check.due("the second waits anew, and the fourth", reach(x, 0), "1090 1105 1105 1102");
        x.hold(1, 6);
        check.due("the first takes the second, the third the fourth", reach(x, 0), "1103 1103 1109 1109");
    }

    private static void leavesBehindTheLast() {
        check.sentence("Terms 4", "it leaves B MINUTES for each that JOINED behind the last of them that came");
        String land = "root 60;place 0 10 60;fork 1 1 60;" + "portion 1 1;".repeat(7);
        PartingTrains x = Check.of(land);
        check.due("six joined", x.reaches(0, 0), 1080 + 6 * 60 + 10);
        check.due("the last of them too", x.reaches(6, 0), 1450);
        x.evening(3, 1090);
        x.hold(1, 10);
        check.due("behind the last", x.reaches(0, 0), 1460);
        x.hold(1, 9);
        check.due("without it", x.reaches(0, 0), 1390);
        check.due("alone at once", x.reaches(3, 0), 1100);
    }

    private static void hold() {
        check.sentence("Promise 23", "WAIT of a fork: what it was. IllegalArgumentException: no fork, or MINUTES.");
        PartingTrains x = Check.of(PAIR + "fork 2 1 1;");
        check.due("0 at first", x.hold(1, 60), 0);
        check.due("the most", x.hold(1, 0), 60);
        check.due("the least", x.hold(1, 7), 0);
        check.due("the other is as it was", x.hold(2, 3), 0);
        check.illegalBeyond("hold", 0, 60, minutes -> x.hold(1, minutes));
        check.illegal("no fork", () -> x.hold(3, 0));
        check.illegal("the root, no fork", () -> x.hold(0, 0));
        check.outOfBoundsBeyond("hold", 3, place -> x.hold(place, 0));
        check.outOfBoundsBeyond("hold of no minutes", 3, place -> x.hold(place, 61));
        check.due("nothing changes", x.hold(1, 0), 7);
    }

    private static void reachesAndRows() {
        check.sentence("Promise 24", "REACHES, if the PORTIONS of some bits are late. IllegalArgumentException: also bits.");
        PartingTrains x = Check.of("root 60;place 0 10 60;" + "portion 1 1;".repeat(7) + "late 6 1 5;");
        check.due("the last bit", x.reaches(6, 64), 1095);
        check.due("all bits", x.reaches(6, 127), 1095);
        check.due("all others", x.reaches(6, 63), 1090);
        check.illegalBeyond("reaches, bits", 0, 127, bits -> x.reaches(0, bits));
        check.illegalBeyond("reaches, portion", 0, 6, portion -> x.reaches(portion, 0));
        check.sentence("Promise 25", "ROWS that REACH the root. IllegalArgumentException: bits.");
        check.due("seven", x.rows(127), 7);
        check.due("no portions", Check.of("root 5;").rows(0), 0);
        check.due("no land", new PartingTrains().rows(0), 0);
        check.illegalBeyond("rows", 0, 127, x::rows);
        check.illegalBeyond("rows of no portions", 0, 0, Check.of("root 5;")::rows);
        check.sentence("Promise 26", "HARM. IllegalArgumentException: bits.");
        check.illegalBeyond("harm", 0, 127, x::harm);
        check.illegalBeyond("harm of no portions", 0, 0, Check.of("root 5;")::harm);
    }

    private static void harm() {
        check.sentence("Terms 4", "how much later it REACHES than it would alone and not late; together, and 60 for each ROW"
                + " but the first");
        check.due("no portions", Check.of("root 5;").harm(0), 0);
        check.due("no land", new PartingTrains().harm(0), 0);
        String one = "root 60;place 0 10 60;portion 1 15;late 0 0 120;";
        check.due("one", Check.of(one).harm(0), 0);
        check.due("one, late", Check.of(one).harm(1), 1800);
        check.due("two rows", Check.of(one + "portion 1 1;").harm(0), 60);
        check.due("seven rows", Check.of(one + "portion 1 1;".repeat(6)).harm(0), 360);
        PartingTrains x = Check.of(PAIR.replace("portion 2 1", "portion 2 3"));
        x.hold(1, 5);
        check.due("one row, 3 times 7 and 2", x.harm(0), 23);
        // In a row with a late one those that are not late have harm too.
        PartingTrains y = Check.of("root 60;place 0 10 60;fork 1 1 1;portion 1 2;portion 1 3;late 1 1 4;");
        y.hold(1, 4);
        check.due("late by 4, and one to join", y.harm(2), 2 * 5 + 3 * 5);
    }

    private static void mean() {
        check.sentence("Terms 4", "over all ways in which those with a chance (N above 0) are late or not");
        String one = "root 60;place 0 10 60;portion 1 3;";
        check.due("no chance", Check.of(one).mean(), 0);
        check.due("a chance of none", Check.of(one + "late 0 0 7;").mean(), 0);
        check.due("the least chance", Check.of(one + "late 0 1 7;").mean(), 21);
        check.due("the greatest", Check.of(one + "late 0 19 7;").mean(), 19 * 21);
        // Portion 1 has no chance: it adds 60 for its row to both ways, 20 together, and nothing else.
        check.due("one of two", Check.of(one + "late 0 19 7;portion 1 1;late 1 0 120;").mean(), 19 * 21 + 20 * 60);
        check.due("the other of two", Check.of(one + "late 0 0 120;portion 1 1;late 1 19 7;").mean(), 19 * 7 + 20 * 60);
        StringBuilder seven = new StringBuilder("root 9;place 0 1 9;");
        for (int p = 0; p < 7; p++) {
            seven.append("portion 1 1;late ").append(p).append(" 10 1;");
        }
        // 128 ways of a weight of 10 to the 7th; six rows more, and each is late by one in half of the ways.
        check.due("seven", Check.of(seven.toString()).mean(), 10_000_000L * (128 * 360 + 7 * 64));
        check.sentence("Promise 27", "MEAN HARM.");
        check.due("no land", new PartingTrains().mean(), 0);
        check.due("no portions", Check.of("root 5;").mean(), 0);
    }

    private static void bestWait() {
        check.sentence("Terms 4", "of 0, 5, .. 60 that by which MEAN HARM is least (all other WAITS as they are), of these"
                + " the least");
        // With one minute to join, waiting for g minutes costs g and 2; going alone costs 60.
        String land = PAIR.replace("fork 1 1 2", "fork 1 1 1");
        int[][] due = {{0, 0}, {1, 5}, {5, 5}, {6, 10}, {10, 10}, {11, 15}, {55, 55}, {56, 60}, {57, 60}, {58, 0}, {60, 0},
            {61, 0}};
        for (int[] d : due) {
            PartingTrains x = starting(land, 1080, 1075 + d[0]);
            x.hold(1, 7);
            check.due("behind by " + d[0], x.bestWait(1), d[1]);
            check.due("the wait is as it was", x.hold(1, 7), 7);
        }
        check.sentence("Promise 28", "IllegalArgumentException: no fork.");
        PartingTrains y = Check.of(PAIR);
        check.illegal("no fork", () -> y.bestWait(2));
        check.illegal("the root, no fork", () -> y.bestWait(0));
        check.outOfBoundsBeyond("bestWait", 3, y::bestWait);
        y.shut(1, true);
        check.due("a shut fork", y.bestWait(1), 0);
    }

    private static void bestWaitByChances() {
        check.sentence("Terms 4", "that by which MEAN HARM is least");
        String land = PAIR.replace("fork 1 1 2", "fork 1 1 1");
        // To wait for one that is late costs 2 more by a lateness of 55, and 8 less by one of 45.
        check.due("not worth it", Check.of(land + "late 1 1 55;").bestWait(1), 5);
        check.due("worth it", Check.of(land + "late 1 19 45;").bestWait(1), 50);
        // The second waits for 15 minutes, if the first is late by 20: which has no chance here, but one there.
        check.due("no chance, though a lateness", Check.of(land + "late 0 0 20;late 1 1 1;").bestWait(1), 10);
        check.due("the least chance", Check.of(land + "late 0 1 20;late 1 1 1;").bestWait(1), 15);
    }

    private static void otherWaitsAsTheyAre() {
        check.sentence("Terms 4", "(all other WAITS as they are)");
        String land = "root 60;place 0 10 60;place 1 10 60;fork 1 1 1;fork 2 1 1;portion 2 1;portion 2 1;portion 1 1;";
        // If 0 waits for 1 at place 2, both come to place 1 just with portion 2: two rows less, for 65.
        PartingTrains x = starting(land, 1080, 1140, 1151);
        check.due("sixty minutes, and no less", x.bestWait(2), 60);
        x.hold(1, 5);
        // Now 1 waits for portion 2 at place 1 by itself, so that waiting at place 2 spares one row alone.
        check.due("by another wait", x.bestWait(2), 0);
        // If 0 does not wait, it goes on with portion 3, which costs that 75; nothing of that stays when it waits.
        PartingTrains y = starting(land.replace("fork 1 1 1", "fork 1 1 5") + "portion 1 15;", 1080, 1100, 1200, 1090);
        check.due("to be rid of the long one", y.bestWait(2), 20);
    }

    private static void settle() {
        check.sentence("Terms 4", "each fork, the greatest PLACE first, gets its BEST WAIT, one after the other");
        // By the other order place 1 would wait by 20 too, but then place 2 not at all.
        PartingTrains x = starting("root 60;place 0 3 60;place 1 7 60;place 2 1 60;fork 1 1 1;fork 2 1 3;"
                + "portion 1 2;portion 3 1;portion 3 2;", 1095, 1104, 1092);
        check.due("two changed", x.settle(), 2);
        check.due("place 1", x.hold(1, 20), 20);
        check.due("place 2", x.hold(2, 15), 15);
        check.sentence("Promise 29", "SETTLED: how many WAITS changed.");
        // Now the wait of place 1 is another one when place 2 is settled.
        check.due("again", x.settle(), 1);
        check.due("place 2 again", x.hold(2, 0), 0);
        check.due("settled for good", x.settle(), 0);
        check.due("no forks", Check.of("root 5;").settle(), 0);
        check.due("no land", new PartingTrains().settle(), 0);
    }

    private static void spoil() {
        check.sentence("Terms 4", "SPOILT by a PORTION that alone is so many MINUTES late (0 to 240): how many others REACH later"
                + " than if none is late; SPREAD: by how many MINUTES together");
        PartingTrains x = Check.of(PAIR + "late 0 19 120;late 1 19 120;");
        x.hold(1, 60);
        check.due("not late", x.spoil(1, 0, 0), 0);
        check.due("not late", x.spoil(1, 0, 1), 0);
        check.due("by one", x.spoil(1, 1, 0), 1);
        check.due("by one", x.spoil(1, 1, 1), 1);
        check.due("as long as it waits", x.spoil(1, 55, 1), 55);
        check.due("no more: it goes ahead, earlier than else", x.spoil(1, 56, 0), 0);
        check.due("what is earlier is not counted", x.spoil(1, 56, 1), 0);
        check.due("the most", x.spoil(1, 240, 1), 0);
        // The first comes behind the second then, which waits for it.
        check.due("the other one", x.spoil(0, 65, 1), 60);
        check.due("one alone", Check.of("root 5;place 0 1 1;portion 1 1;").spoil(0, 240, 0), 0);
        PartingTrains y = starting(SHORT.replace("10 5", "10 50"), 1080, 1080, 1080, 1080);
        y.hold(1, 9);
        check.due("three others", y.spoil(2, 9, 0), 3);
        check.due("by nine each", y.spoil(2, 9, 1), 27);
        check.sentence("Promise 30", "IllegalArgumentException: MINUTES, the PORTION, what.");
        check.illegalBeyond("minutes", 0, 240, minutes -> x.spoil(0, minutes, 0));
        check.illegalBeyond("portion", 0, 1, portion -> x.spoil(portion, 0, 0));
        check.illegalBeyond("what", 0, 1, what -> x.spoil(0, 0, what));
    }

    private static void alike() {
        check.sentence("Terms 4", "a TRAIN whose ROW, turned round, is a ROW that REACHES the root in the EVENING, none being"
                + " late");
        PartingTrains x = starting(SHORT.replace("10 5", "10 50") + "late 0 19 120;", 1080, 1081, 1082, 1200);
        x.hold(1, 2);
        check.due("turned round", comesAs(x, 0, 1, 2), true);
        check.due("as it stands", comesAs(x, 2, 1, 0), false);
        check.due("without its first", comesAs(x, 1, 2), false);
        check.due("without its last", comesAs(x, 0, 1), false);
        check.due("its first alone", comesAs(x, 0), false);
        check.due("its last alone", comesAs(x, 2), false);
        check.due("two rows", comesAs(x, 0, 1, 2, 3), false);
        check.due("the last row, one alone", comesAs(x, 3), true);
        check.sentence("Promise 31", "Whether a TRAIN is ALIKE (one without PORTIONS is not).");
        PartingTrains y = Check.of("root 5;");
        y.train(0);
        check.due("no portions", y.alike(0), false);
        PartingTrains z = Check.of(PAIR);
        z.train(0);
        check.due("without portions", z.alike(0), false);
        check.noSuchBeyond("alike", 0, z::alike);
    }

    private static void wrong() {
        check.sentence("Terms 4", "together, by 100 times the CARRIAGES of the TRAIN (cut)");
        PartingTrains x = Check.of("root 9;place 0 1 9;place 0 2 9;place 1 5 9;portion 1 1;portion 2 2;portion 3 3;"
                + "want 1 10 0;want 2 7 0;want 2 1 0;want 3 900 0;");
        x.train(0);
        check.due("no portions", x.wrong(0, 0), 0);
        x.put(0, 0);
        check.due("one alone", x.wrong(0, 0), 0);
        x.put(0, 1);
        // 10 times 2 times 3, and 8 times 1 times 3, by three carriages.
        int[][] due = {{0, 28}, {1, 27}, {50, 14}, {96, 1}, {97, 0}, {99, 0}, {100, 0}};
        for (int[] d : due) {
            check.due("right " + d[0] + " times", x.wrong(0, d[0]), d[1]);
        }
        PartingTrains y = Check.of("root 9;place 0 1 9;place 1 1 9;portion 1 1;portion 2 1;want 1 101 0;");
        y.train(0);
        Check.putAll(y, 0, 0, 1);
        check.due("9999 by 200", y.wrong(0, 1), 49);
        check.due("10100 by 200", y.wrong(0, 0), 50);
        check.sentence("Promise 32", "IllegalArgumentException: s is not 0 to 100.");
        check.illegalBeyond("wrong", 0, 100, s -> x.wrong(0, s));
        check.noSuchBeyond("wrong", 0, train -> x.wrong(train, 0));
        check.noSuchBeyond("wrong, no signs", 0, train -> x.wrong(train, 101));
    }

    private static void wrongAtItsMost() {
        check.sentence("Terms 4", "its CARRIAGES times the WAY between both ends");
        StringBuilder land = new StringBuilder("root 9;");
        for (int p = 1; p < 12; p++) {
            land.append("place ").append(p == 6 ? 0 : p - 1).append(" 240 9;");
        }
        land.append("portion 5 1;").append("portion 11 15;".repeat(6)).append("want 5 999 1;".repeat(12));
        PartingTrains x = Check.of(land.toString());
        x.train(0);
        Check.putAll(x, 0, 0, 1, 2, 3, 4, 5, 6);
        // 11988 people times 100 times 90 carriages times 2640 minutes, by 100 times 91.
        check.due("far beyond an int on the way", x.wrong(0, 0), 31_300_536);
        PartingTrains y = Check.of("root 9;place 0 1 9;portion 1 1;portion 1 1;want 1 999 0;");
        y.train(0);
        Check.putAll(y, 0, 0, 1);
        check.due("no way between two of one end", y.wrong(0, 0), 0);
    }
}
