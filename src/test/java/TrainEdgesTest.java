/** The edges that "Terms" ==== 2 and 3 and promises 7 to 20 name, sentence by sentence. */
public final class TrainEdgesTest {
    private static final Check check = new Check();
    // All seven portions end at one place, and one engine pulls them all.
    private static final String SEVEN = "root 60;place 0 1 60;" + "portion 1 1;".repeat(7) + "engine 0 60;";
    // Portions 0, 1 by place 1 to 2 and 3, portion 2 to 1, portion 3 to 4.
    private static final String TREE = "root 60;place 0 10 60;place 1 20 60;place 1 30 60;place 0 5 60;"
            + "portion 2 1;portion 3 1;portion 1 1;portion 4 1;";
    private static final String FORKS = "fork 0 2 1;fork 1 3 1;";
    private static final String ENGINES = "engine 0 60;engine 0 60;engine 1 60;";

    public static void main(String[] args) {
        shutInByThoseThatStay();
        shutInByAGroup();
        lawful();
        cuts();
        orders();
        first();
        trains();
        put();
        sort();
        clear();
        row();
        judgedInOrder();
        tooLong();
        errorsInOrder();
        noFork();
        enginesAtTheRoot();
        enginesAtAPlace();
        goneOn();
        takenAhead();
        leave();
        arrives();
        serves();
        far();
        half();
        worth();
        best();
        bestOfAll();
        bestByAChange();
        bestWithoutErrors();
        bound();
        group();
        allAtTheirMost();
        check.end("TrainEdgesTest");
    }

    private static PartingTrains withTrain(String land, int minute, int... portions) {
        PartingTrains x = Check.of(land);
        x.train(minute);
        Check.putAll(x, 0, portions);
        return x;
    }

    private static void error(String what, int due, String land, int... portions) {
        check.due(what, withTrain(land, 600, portions).error(0), due);
    }

    private static void shutInByThoseThatStay() {
        check.sentence("Terms 2", "if those that STAY do not stand last");
        String land = TREE + FORKS + ENGINES;
        error("last", 0, land, 0, 1, 2);
        error("first", 201, land, 2, 0);
        error("between", 201, land, 0, 2, 1);
        error("alone", 0, land, 2);
        error("two that stay", 0, SEVEN, 5, 3);
    }

    private static void shutInByAGroup() {
        check.sentence("Terms 2", "or some GROUP does not stand together");
        String land = TREE + FORKS + ENGINES;
        error("not together", 200, land, 0, 3, 1);
        error("one that ends on the way is of the group", 200, land, 2, 3, 0);
        error("together", 0, land, 3, 0, 1);
        error("together, ahead", 0, land, 0, 1, 3);
        error("together at the root, not behind it", 201, land + "portion 2 1;", 0, 1, 4);
    }

    private static void lawful() {
        check.sentence("Terms 2", "LAWFUL is a ROW that is SHUT IN nowhere");
        PartingTrains x = Check.of(TREE);
        // Neither forks nor engines nor platforms count: two ways at the root, two at place 1.
        check.due("orders", x.orders(15), 4);
        check.due("the first", x.first(15, 2), 2);
    }

    private static void cuts() {
        check.sentence("Terms 2", "CUTS: how many GROUPS there are, and 1 if some STAY, less 1.");
        check.due("one group alone", withTrain(TREE, 0, 0).cuts(0, 0), 0);
        check.due("all stay", withTrain(SEVEN, 0, 0, 1, 2, 3, 4, 5, 6).cuts(0, 0), 0);
        check.due("one group, one stays", withTrain(TREE, 0, 0, 2).cuts(0, 0), 1);
        check.due("two groups", withTrain(TREE, 0, 0, 1).cuts(0, 0), 1);
        check.due("two groups, one stays", withTrain(TREE, 0, 0, 1, 2).cuts(0, 0), 2);
        check.due("two groups, two stay", withTrain(TREE + "portion 1 1;", 0, 0, 1, 4, 2).cuts(0, 0), 2);
        check.due("at two places", withTrain(TREE, 0, 3, 0, 1, 2).cuts(0, 0), 3);
        check.due("no portions", withTrain(TREE, 0).cuts(0, 0), 0);
    }

    private static void orders() {
        check.sentence("Terms 2", "ORDERS of a set of PORTIONS: how many LAWFUL ROWS it has.");
        PartingTrains x = Check.of(SEVEN);
        int factorial = 1;
        for (int n = 0; n <= 7; n++) {
            factorial *= Math.max(1, n);
            check.due("so many stay: " + n, x.orders((1 << n) - 1), factorial);
        }
        StringBuilder star = new StringBuilder("root 5;" + "place 0 1 1;".repeat(7));
        for (int p = 1; p <= 7; p++) {
            star.append("portion ").append(p).append(" 1;");
        }
        check.due("seven groups", Check.of(star.toString()).orders(127), 5040);
        check.due("three groups of them", Check.of(star.toString()).orders(0b1010001), 6);
        check.sentence("Promise 7", "IllegalArgumentException: bits of no PORTIONS (so below).");
        check.illegalBeyond("orders of seven", 0, 127, x::orders);
        check.illegalBeyond("orders of four", 0, 15, Check.of(TREE)::orders);
        PartingTrains y = Check.of("root 5;");
        check.due("no portions", y.orders(0), 1);
        check.illegalBeyond("orders of none", 0, 0, y::orders);
    }

    private static void first() {
        check.sentence("Terms 2", "The FIRST of them: by the first PORTION, the least ahead, and so on.");
        // 4 and 1 go on to place 2, 3 and 0 stay at place 1, 2 goes to place 3.
        PartingTrains x = Check.of("root 9;place 0 1 9;place 1 1 9;place 0 1 9;"
                + "portion 1 1;portion 2 1;portion 3 1;portion 1 1;portion 2 1;");
        int[] due = {1, 4, 0, 3, 2};
        for (int k = 0; k < 5; k++) {
            check.due("of all " + k, x.first(31, k), due[k]);
        }
        // Without 1 the group by place 1 begins with 4, so that 2 is ahead of it.
        int[] less = {2, 4, 0, 3};
        for (int k = 0; k < 4; k++) {
            check.due("without 1: " + k, x.first(29, k), less[k]);
        }
        check.sentence("Promise 8", "NONE: there is none such.");
        for (int k : new int[] {-1, 4, 5, Integer.MIN_VALUE, Integer.MAX_VALUE}) {
            check.due("first " + k, x.first(29, k), PartingTrains.NONE);
        }
        check.due("of no portions", x.first(0, 0), PartingTrains.NONE);
        check.due("of one", x.first(16, 0), 4);
        check.due("behind the one", x.first(16, 1), PartingTrains.NONE);
        check.due("the last of seven", Check.of(SEVEN).first(127, 6), 6);
        check.due("behind the last of seven", Check.of(SEVEN).first(127, 7), PartingTrains.NONE);
        check.illegalBeyond("first of bits", 0, 31, bits -> x.first(bits, 0));
        check.illegalBeyond("first of bits, none such", 0, 31, bits -> x.first(bits, -1));
    }

    private static void trains() {
        check.sentence("Promise 9", "A TRAIN: its number; -1: there are 4.");
        PartingTrains x = Check.of(SEVEN);
        for (int i = 0; i < 4; i++) {
            check.due("numbered from 0 on", x.train(10 * i), i);
        }
        check.due("a fifth", x.train(5), -1);
        check.due("there are still 4", x.count(0), 4);
        x.put(3, 0);
        check.due("the fourth leaves as told", x.arrives(0), 31);
        check.noSuch("there is no fifth", () -> x.put(4, 1));
        check.sentence("Promise 9", "IllegalArgumentException: the MINUTE.");
        PartingTrains y = Check.of(SEVEN);
        check.illegalBeyond("train", 0, 1439, y::train);
        check.due("none is made", y.count(0), 0);
        check.due("at the first minute", y.train(0), 0);
        check.due("at the last minute", y.train(1439), 1);
        Check.putAll(y, 0, 0);
        check.due("arrives", y.arrives(0), 1);
        check.illegalBeyond("a fifth train", 0, 1439, x::train);
        check.sentence("Promise 9", "IllegalStateException: there is no LAND.");
        PartingTrains z = new PartingTrains();
        check.refused("no land", IllegalStateException.class, () -> z.train(0));
        Check.tell(z, "root 5;,");
        check.refused("a faulty land is none", IllegalStateException.class, () -> z.train(1439));
        Check.tell(z, "root 5;");
        check.due("a root is one", z.train(0), 0);
    }

    private static void put() {
        check.sentence("Promise 10", "A PORTION comes behind a TRAIN's ROW: how many it has; -1: it is in one.");
        PartingTrains x = Check.of(SEVEN);
        x.train(0);
        x.train(0);
        for (int i = 0; i < 7; i++) {
            check.due("put", x.put(1, 6 - i), i + 1);
        }
        check.due("the row", Check.row(x, 1), "6543210");
        for (int p = 0; p < 7; p++) {
            check.due("it is in this one", x.put(1, p), -1);
            check.due("it is in another one", x.put(0, p), -1);
        }
        check.due("nothing changes", Check.row(x, 1), "6543210");
        check.due("nor here", Check.row(x, 0), "");
        check.sentence("Promise 10", "NoSuchElementException: no such TRAIN (so below).");
        check.noSuchBeyond("put into", 1, train -> x.put(train, 0));
        check.noSuchBeyond("put of no portion into", 1, train -> x.put(train, 7));
        check.sentence("Promise 10", "IllegalArgumentException: no such PORTION (so below).");
        check.illegalBeyond("put of", 0, 6, portion -> x.put(0, portion));
        PartingTrains y = Check.of(TREE);
        y.train(0);
        check.illegalBeyond("put of four", 0, 3, portion -> y.put(0, portion));
        check.due("the last of four", y.put(0, 3), 1);
    }

    private static void sort() {
        check.sentence("Promise 11", "A TRAIN's ROW becomes the FIRST LAWFUL one of its PORTIONS: 1, 0 if it is already.");
        PartingTrains x = Check.of(TREE);
        x.train(0);
        x.train(0);
        check.due("no portions", x.sort(0), 0);
        Check.putAll(x, 0, 2);
        check.due("one portion", x.sort(0), 0);
        // Lawful, but not the first.
        Check.putAll(x, 1, 1, 0);
        check.due("lawful, not the first", x.sort(1), 1);
        check.due("the first", Check.row(x, 1), "01");
        check.due("already", x.sort(1), 0);
        check.due("still the first", Check.row(x, 1), "01");
        x.clear(0);
        Check.putAll(x, 1, 3, 2);
        check.due("only its end is wrong", x.sort(1), 1);
        check.due("in order", Check.row(x, 1), "0123");
        check.due("the other has none", Check.row(x, 0), "");
        check.noSuchBeyond("sort", 1, x::sort);
    }

    private static void clear() {
        check.sentence("Promise 12", "All PORTIONS go out of a TRAIN: how many.");
        PartingTrains x = Check.of(SEVEN);
        x.train(0);
        x.train(0);
        check.due("no portions", x.clear(0), 0);
        Check.putAll(x, 0, 0, 1, 2, 3, 4, 5);
        Check.putAll(x, 1, 6);
        check.due("six", x.clear(0), 6);
        check.due("the other keeps its own", Check.row(x, 1), "6");
        check.due("none are left", x.clear(0), 0);
        check.due("the train stays", x.count(0), 2);
        check.due("they can be put again", x.put(1, 0), 2);
        check.noSuchBeyond("clear", 1, x::clear);
    }

    private static void row() {
        check.sentence("Promise 13", "The k-th PORTION of a TRAIN; NONE.");
        PartingTrains x = Check.of(SEVEN);
        x.train(0);
        check.due("no portions", x.row(0, 0), PartingTrains.NONE);
        Check.putAll(x, 0, 6, 5, 4, 3, 2, 1, 0);
        check.due("the first", x.row(0, 0), 6);
        check.due("the last", x.row(0, 6), 0);
        for (int k : new int[] {-1, 7, Integer.MIN_VALUE, Integer.MAX_VALUE}) {
            check.due("row " + k, x.row(0, k), PartingTrains.NONE);
        }
        x.train(0);
        check.due("not that of the train ahead", x.row(1, -1), PartingTrains.NONE);
        check.noSuchBeyond("row", 1, train -> x.row(train, 0));
        check.noSuchBeyond("row, none such", 1, train -> x.row(train, -1));
    }

    private static void judgedInOrder() {
        check.sentence("Terms 3", "behind a PLACE its GROUPS, the first one (and all behind that) ahead of the next one");
        // Both 2 and 4 are too short: the error is that of the place to which the first group comes.
        String land = "root 9;place 0 1 9;place 1 1 1;place 0 1 9;place 3 1 1;fork 0 1 1;"
                + "portion 2 2;portion 4 2;engine 0 9;engine 0 9;";
        error("the first group, far behind", 302, land, 0, 1);
        error("the other order", 304, land, 1, 0);
        check.sentence("Terms 3", "and the PLACE: the ERROR of the TRAIN");
        // Twelve places in a line, the last too short.
        StringBuilder line = new StringBuilder("root 9;");
        for (int p = 0; p < 10; p++) {
            line.append("place ").append(p).append(" 1 9;");
        }
        line.append("place 10 1 1;portion 11 2;portion 11 1;engine 0 9;");
        error("the last place", 311, line.toString(), 0);
        error("short enough", 0, line.toString(), 1);
        check.sentence("Promise 14", "ERROR of a TRAIN; 0: none.");
        PartingTrains x = Check.of(SEVEN);
        x.train(0);
        check.due("no portions", x.error(0), 0);
        check.noSuchBeyond("error", 0, x::error);
    }

    private static void tooLong() {
        check.sentence("Terms 3", "300: the CARRIAGES of the ROW are more than L");
        String land = "root 6;place 0 1 5;place 1 1 4;fork 1 1 1;engine 0 60;"
                + "portion 1 1;portion 2 4;portion 2 1;portion 1 1;";
        error("as many as L at the end", 0, land, 1);
        error("one more at the end", 302, land, 1, 2);
        error("one more on the way", 301, land, 1, 2, 0);
        error("one more at the root", 300, land, 1, 2, 0, 3);
        String most = "root 60;place 0 1 60;" + "portion 1 15;".repeat(4) + "portion 1 1;engine 0 60;";
        error("sixty carriages", 0, most, 0, 1, 2, 3);
        error("61 carriages", 300, most, 0, 1, 2, 3, 4);
    }

    private static void errorsInOrder() {
        check.sentence("Terms 3", "else 200: it is SHUT IN; else 400");
        String bare = TREE.replace("root 60", "root 2");
        error("300 ahead of 200, 400 and 100", 300, bare, 0, 3, 1);
        error("200 ahead of 400 and 100", 200, TREE, 0, 3, 1);
        error("400 ahead of 100", 400, TREE, 0, 3);
        error("100 at last", 100, TREE, 0);
        // What comes first at the root hides what comes behind it.
        error("400 at the root ahead of 200 behind it", 400, TREE + ENGINES, 2, 0, 3);
        error("100 at the root ahead of 200 behind it", 100, TREE, 2, 0);
    }

    private static void noFork() {
        check.sentence("Terms 3", "400: there are CUTS, and GROUPS, but no fork, or it is SHUT");
        error("two groups at the root", 400, TREE + ENGINES, 0, 3);
        error("two groups at a place", 401, TREE + ENGINES, 0, 1);
        error("one group, one stays", 401, TREE + ENGINES, 0, 2);
        error("one group", 0, TREE + ENGINES, 0);
        error("all stay", 0, TREE + ENGINES + "portion 1 1;", 2, 4);
        PartingTrains x = withTrain(TREE + FORKS + ENGINES, 600, 0, 2, 3);
        check.due("both open", x.error(0), 0);
        x.shut(0, true);
        check.due("the root is shut", x.error(0), 400);
        x.shut(1, true);
        check.due("both are shut", x.error(0), 400);
        x.shut(0, false);
        check.due("place 1 is shut", x.error(0), 401);
        x.clear(0);
        Check.putAll(x, 0, 0);
        check.due("no cuts where it is shut", x.error(0), 0);
    }

    private static void enginesAtTheRoot() {
        check.sentence("Terms 3", "at the root a ROW takes the least one that is there, not taken, and pulls its CARRIAGES");
        String land = "root 9;place 0 1 9;portion 1 4;portion 1 1;";
        error("none", 100, land, 0);
        error("as many as it pulls", 0, land + "engine 0 4;", 0);
        error("one more than it pulls", 100, land + "engine 0 4;", 0, 1);
        error("not there", 100, land + "engine 1 9;", 0);
        PartingTrains x = withTrain(land + "engine 1 9;engine 0 3;engine 0 4;engine 0 9;", 0, 0);
        check.due("the least that pulls it", x.engine(0), 2);
        x.train(0);
        Check.putAll(x, 1, 1);
        check.due("the least of the others", x.engine(1), 1);
        StringBuilder eight = new StringBuilder(land);
        for (int i = 0; i < 7; i++) {
            eight.append("engine 0 3;");
        }
        check.due("the eighth", withTrain(eight + "engine 0 4;", 0, 0).engine(0), 7);
    }

    private static void enginesAtAPlace() {
        check.sentence("Terms 3", "the first of these goes on with that of the ROW, each other one, in order, takes one"
                + " that is there likewise (those that STAY need none)");
        String land = "root 9;place 0 1 9;place 1 1 9;place 1 1 9;place 1 1 9;fork 1 1 1;"
                + "portion 2 3;portion 3 2;portion 4 1;portion 1 1;engine 0 9;";
        error("those that stay need none", 0, land, 0, 3);
        error("a second group needs one", 101, land, 0, 1);
        error("as many as it pulls", 0, land + "engine 1 2;", 0, 1);
        error("one more than it pulls", 101, land + "engine 1 1;", 0, 1);
        error("not there", 101, land + "engine 0 9;engine 2 9;", 0, 1);
        // In order: the second group takes the only one that the third could have.
        error("the third lacks", 101, land + "engine 1 2;engine 1 1;", 0, 2, 1, 3);
        PartingTrains x = withTrain(land + "engine 1 1;engine 1 2;", 0, 0, 2, 1, 3);
        check.due("no error", x.error(0), 0);
        int[] due = {0, 2, 1, 0};
        for (int p = 0; p < 4; p++) {
            check.due("engine of " + p, x.engine(p), due[p]);
        }
        check.sentence("Promise 15", "NONE: in no TRAIN, its TRAIN has an ERROR.");
        PartingTrains y = withTrain(land, 0, 0, 3);
        check.due("in no train", y.engine(1), PartingTrains.NONE);
        check.due("comes to its end", y.engine(3), 0);
        y.shut(1, true);
        check.due("its train has an error", y.engine(3), PartingTrains.NONE);
        check.illegalBeyond("engine", 0, 3, y::engine);
        check.illegalBeyond("engine without a land", 0, -1, new PartingTrains()::engine);
    }

    private static void goneOn() {
        check.sentence("Terms 3", "it ends there, what has gone on has gone on");
        // Place 2 is too short for portion 0; engines wait at 1 and at 3.
        String land = "root 9;place 0 1 9;place 1 1 1;place 1 1 9;place 3 1 9;place 3 1 9;fork 1 1 1;fork 3 1 1;"
                + "portion 2 2;portion 4 1;portion 5 1;portion 4 1;portion 5 1;portion 2 1;portion 4 1;"
                + "engine 0 9;engine 0 9;engine 0 9;engine 1 9;engine 3 9;";
        PartingTrains x = withTrain(land, 0, 0, 1, 2);
        x.train(0);
        x.train(0);
        Check.putAll(x, 1, 3, 4);
        Check.putAll(x, 2, 5, 6);
        check.due("too short for the first group", x.error(0), 302);
        check.due("the second did not come to the engine at 3", x.error(1), 0);
        check.due("so that is free", x.engine(4), 4);
        check.due("but that at 1 is taken", x.error(2), 101);
        x.clear(0);
        Check.putAll(x, 0, 1, 2, 0);
        check.due("too short for the second group", x.error(0), 302);
        check.due("the first has taken the engine at 3", x.error(1), 103);
        check.due("what came to its end has not arrived", x.arrives(1), PartingTrains.NONE);
        check.due("nor has it an engine", x.engine(1), PartingTrains.NONE);
    }

    private static void takenAhead() {
        check.sentence("Terms 3", "(what one with an ERROR took till then stays taken)");
        String land = "root 9;place 0 1 9;place 0 1 9;place 0 1 9;fork 0 1 1;"
                + "portion 1 1;portion 2 1;portion 3 1;portion 1 1;engine 0 9;engine 0 9;";
        PartingTrains x = withTrain(land, 0, 0, 1, 2);
        x.train(0);
        Check.putAll(x, 1, 3);
        check.due("the third group lacks one", x.error(0), 100);
        check.due("both are taken", x.error(1), 100);
        x.shut(0, true);
        check.due("no fork", x.error(0), 400);
        check.due("none is taken", x.engine(3), 0);
        check.sentence("Terms 3", "Taken are they by all TRAINS JUDGED ahead, too");
        PartingTrains y = withTrain(land, 0, 0);
        y.train(0);
        y.train(0);
        Check.putAll(y, 1, 1);
        Check.putAll(y, 2, 2);
        check.due("the first train", y.engine(0), 0);
        check.due("the second", y.engine(1), 1);
        check.due("the third", y.error(2), 100);
        y.clear(0);
        check.due("one without portions takes none", y.engine(2), 1);
    }

    private static void leave() {
        check.sentence("Terms 3", "With CUTS the GROUPS leave A, twice A, .. MINUTES behind the ROW's coming there;"
                + " without, at once.");
        StringBuilder star = new StringBuilder("root 60;fork 0 60 1;");
        for (int p = 1; p <= 7; p++) {
            star.append("place 0 1 60;portion ").append(p).append(" 1;engine 0 60;");
        }
        PartingTrains x = withTrain(star.toString(), 1439, 0, 1, 2, 3, 4, 5, 6);
        for (int p = 0; p < 7; p++) {
            check.due("the group " + p, x.arrives(p), 1440 + 60 * (p + 1));
        }
        x.clear(0);
        Check.putAll(x, 0, 3);
        check.due("without cuts", x.arrives(3), 1440);
        PartingTrains y = withTrain(TREE + FORKS + ENGINES, 0, 0, 2);
        check.due("one stays: the only group leaves by A", y.arrives(0), 33);
        check.due("what stays has arrived", y.arrives(2), 10);
    }

    private static void arrives() {
        check.sentence("Terms 3", "ARRIVES: the MINUTE in which a PORTION comes to its end (NONE: in no TRAIN, or its TRAIN"
                + " has an ERROR).");
        StringBuilder line = new StringBuilder("root 9;");
        for (int p = 0; p < 11; p++) {
            line.append("place ").append(p).append(" 240 9;");
        }
        line.append("portion 11 1;portion 1 1;engine 0 9;");
        PartingTrains x = withTrain(line.toString(), 1439, 0);
        check.due("far behind midnight", x.arrives(0), 4079);
        check.due("in no train", x.arrives(1), PartingTrains.NONE);
        Check.putAll(x, 0, 1);
        check.due("its train has an error at the next place", x.error(0), 401);
        check.due("so it does not arrive", x.arrives(0), PartingTrains.NONE);
        check.due("nor does what came to its end", x.arrives(1), PartingTrains.NONE);
        check.sentence("Promise 16", "ARRIVES.");
        check.illegalBeyond("arrives", 0, 1, x::arrives);
        check.illegalBeyond("arrives without a land", 0, -1, new PartingTrains()::arrives);
    }

    private static void serves() {
        check.sentence("Terms 3", "if it has no ERROR and some PORTION of it goes by there or ends there");
        String wants = "want 1 1 600;want 2 1 600;want 3 1 600;want 4 1 600;";
        PartingTrains x = withTrain(TREE + FORKS + ENGINES + wants, 600, 0);
        int[] due = {100, 100, 50, 0};
        for (int w = 0; w < 4; w++) {
            check.due("worth of " + w, x.worth(w), due[w]);
        }
        Check.putAll(x, 0, 2);
        check.due("no error", x.worth(PartingTrains.NONE), 250);
        x.shut(1, true);
        check.due("an error", x.worth(PartingTrains.NONE), 0);
    }

    private static void far() {
        check.sentence("Terms 3", "FAR being how far its MINUTE is from H, by 10 (cut), 90 at most");
        int[][] due = {{0, 100}, {9, 100}, {10, 99}, {19, 99}, {20, 98}, {720, 28}, {899, 11}, {900, 10}, {909, 10},
            {910, 10}, {1439, 10}};
        for (int[] d : due) {
            String land = "root 9;place 0 1 9;portion 1 1;engine 0 9;want 1 1 ";
            check.due("a train ahead by " + d[0], withTrain(land + d[0] + ";", 0, 0).worth(0), d[1]);
            check.due("a train behind by " + d[0], withTrain(land + "0;", d[0], 0).worth(0), d[1]);
        }
        String most = "root 9;place 0 1 9;portion 1 1;engine 0 9;" + "want 1 999 1439;".repeat(12);
        check.due("the most people", withTrain(most, 1439, 0).worth(-1), 1_198_800);
        check.due("as far as can be", withTrain(most, 0, 0).worth(-1), 119_880);
    }

    private static void half() {
        check.sentence("Terms 3", "half of that (cut), if it does not, but SERVES some PLACE on the way there, but the root;"
                + " 0.");
        String land = "root 9;place 0 1 9;place 1 1 9;place 2 1 9;place 0 1 9;portion 1 1;portion 4 1;portion 3 1;"
                + "engine 0 9;engine 0 9;want 3 1 ";
        check.due("a place far ahead", withTrain(land + "0;", 0, 0).worth(0), 50);
        check.due("cut", withTrain(land + "10;", 0, 0).worth(0), 49);
        check.due("the least", withTrain(land + "1439;", 0, 0).worth(0), 5);
        check.due("by the root alone", withTrain(land + "0;", 0, 1).worth(0), 0);
        check.due("without portions", withTrain(land + "0;", 0).worth(0), 0);
        check.due("to its end", withTrain(land + "0;", 0, 2).worth(0), 100);
        check.sentence("Terms 3", "WORTH of a WANT: the greatest by all TRAINS");
        PartingTrains x = withTrain(land + "1439;", 0, 2);
        check.due("served, but far", x.worth(0), 10);
        x.train(1439);
        Check.putAll(x, 1, 0);
        check.due("by a change, but near", x.worth(0), 50);
    }

    private static void worth() {
        check.sentence("Promise 17", "WORTH of a WANT; with NONE: of all.");
        PartingTrains x = Check.of(TREE);
        check.due("no wants", x.worth(-1), 0);
        check.sentence("Promise 17", "IllegalArgumentException: no such WANT, and not NONE.");
        check.illegalBeyond("worth without wants", -1, -1, x::worth);
        PartingTrains y = Check.of(TREE + "want 1 1 1;".repeat(12));
        check.due("the last want", y.worth(11), 0);
        check.illegalBeyond("worth of twelve", -1, 11, y::worth);
    }

    private static void best() {
        check.sentence("Promise 18", "with NONE: its WORTH; -2: there is none.");
        check.due("no land: one way to put none", new PartingTrains().best(-1), 0);
        check.due("no portions", withTrain("root 5;", 0).best(-1), 0);
        PartingTrains x = Check.of(SEVEN);
        check.due("no trains", x.best(-1), -2);
        check.due("no trains, a portion", x.best(6), -2);
        check.due("no engine", withTrain(TREE + FORKS, 0).best(-1), -2);
        check.due("no worth", withTrain(SEVEN, 0).best(-1), 0);
        check.sentence("Promise 18", "IllegalArgumentException: no such PORTION, and not NONE.");
        check.illegalBeyond("best", -1, 6, x::best);
        check.illegalBeyond("best without a land", -1, -1, new PartingTrains()::best);
    }

    private static void bestOfAll() {
        check.sentence("Terms 3", "the one without ERRORS (a TRAIN without PORTIONS has none) of the greatest WORTH; of these"
                + " the first (PORTION by PORTION, the lesser TRAIN ahead)");
        PartingTrains x = Check.of(SEVEN + "want 1 10 900;");
        for (int minute : new int[] {0, 895, 905, 900}) {
            x.train(minute);
        }
        check.due("one engine: all in one train", x.best(-1), 1000);
        for (int p = 0; p < 7; p++) {
            check.due("of those of equal worth the lesser", x.best(p), 1);
        }
        PartingTrains y = Check.of("root 9;place 0 1 9;place 0 1 9;portion 1 5;portion 2 5;portion 1 4;"
                + "engine 0 9;engine 0 9;want 2 1 0;want 1 1 0;");
        y.train(0);
        y.train(0);
        // Without a fork those to 1 and to 2 go apart; the first of both ways has portion 0 in train 0.
        int[] due = {0, 1, 0};
        for (int p = 0; p < 3; p++) {
            check.due("the first way " + p, y.best(p), due[p]);
        }
        check.sentence("Terms 3", "to put each PORTION into one of the TRAINS (the FIRST ROW of each)");
        // The first row 0 1 lacks an engine for 1; the row 1 0 would do.
        String land = "root 9;place 0 1 9;place 1 1 9;place 1 1 9;fork 1 1 1;portion 2 2;portion 3 3;engine 0 5;engine 1 2;";
        PartingTrains z = withTrain(land, 0, 1, 0);
        check.due("another row has no error", z.error(0), 0);
        check.due("but there is no grouping", z.best(-1), -2);
        // A weak engine must not be taken by the train ahead.
        PartingTrains w = Check.of("root 9;place 0 1 9;place 0 1 9;portion 1 2;portion 2 5;engine 0 5;engine 0 3;");
        w.train(0);
        w.train(0);
        check.due("portion 0 in train 0 would take the strong engine", w.best(0), 1);
        check.due("so portion 1 goes in train 0", w.best(1), 0);
    }

    private static void bestByAChange() {
        check.sentence("Terms 3", "BEST GROUPING: of all ways");
        // Nobody goes to 2, so that its want is worth half: by train 1 more than by train 0.
        PartingTrains x = Check.of("root 9;place 0 1 9;place 1 1 9;place 0 1 9;portion 1 1;portion 3 1;"
                + "engine 0 9;engine 0 9;want 2 3 510;want 3 1 0;");
        x.train(0);
        x.train(500);
        check.due("half of 297 and all of 100", x.best(-1), 148 + 100);
        check.due("to place 1", x.best(0), 1);
        check.due("to place 3", x.best(1), 0);
        check.due("put", x.group(), 2);
        check.due("worth as told", x.worth(-1), 248);
        // With the want of place 1 ahead of it, whole and half go by other trains.
        PartingTrains y = Check.of("root 9;place 0 1 9;place 1 1 9;portion 1 1;portion 2 1;engine 0 9;engine 0 9;"
                + "want 2 10 0;want 1 1 500;");
        y.train(500);
        y.train(0);
        check.due("place 2 by train 1, place 1 by train 0", y.best(-1), 1000 + 100);
        check.due("the first portion", y.best(0), 0);
        check.due("the second", y.best(1), 1);
    }

    private static void bestWithoutErrors() {
        check.sentence("Terms 3", "the one without ERRORS");
        // Together they would be of the greatest worth, by train 0.
        String land = "root 9;place 0 1 9;place 1 1 5;place 1 1 9;portion 2 3;portion 2 2;portion 3 1;"
                + "engine 0 9;engine 0 9;engine 1 9;want 2 1 0;want 3 1 0;";
        PartingTrains x = Check.of(land + "fork 1 1 1;");
        x.train(0);
        x.train(900);
        check.due("together", x.best(2), 0);
        x.shut(1, true);
        check.due("one goes apart: half of 100 is more than 10", x.best(-1), 150);
        check.due("which one", "" + x.best(0) + x.best(1) + x.best(2), "001");
        // A carriage more than the platform of place 2 takes, or of place 1, or of the root.
        String[][] platforms = {{"place 1 1 5;", "place 1 1 4;"}, {"place 0 1 9;", "place 0 1 4;"}, {"root 9;", "root 4;"}};
        for (String[] platform : platforms) {
            PartingTrains y = Check.of(land.replace(platform[0], platform[1]) + "fork 1 1 1;");
            y.train(0);
            check.due("one train: none by " + platform[1], y.best(-1), -2);
            y.train(0);
            check.due("two trains by " + platform[1], "" + y.best(0) + y.best(1) + y.best(2), "010");
        }
        check.due("no fork told", oneTrain(land).best(-1), -2);
        check.due("one stays, no fork", oneTrain(land.replace("portion 3", "portion 1")).best(-1), -2);
        check.due("all are together, no fork", oneTrain(land.replace("portion 3 1;", "")).best(-1), 100 + 50);
    }

    private static PartingTrains oneTrain(String land) {
        return withTrain(land, 0);
    }

    private static void bound() {
        check.sentence("Terms 3", "BOUND: the WORTH, if each WANT were SERVED by the TRAIN whose MINUTE is nearest to H.");
        PartingTrains x = Check.of("root 9;place 0 1 9;want 1 1 500;want 1 2 1439;want 1 3 0;");
        x.train(489);
        check.due("one train", x.bound(), 99 + 2 * 10 + 3 * 52);
        x.train(510);
        check.due("ten minutes are as far as eleven", x.bound(), 99 + 2 * 10 + 3 * 52);
        x.train(509);
        check.due("nine minutes are near", x.bound(), 100 + 2 * 10 + 3 * 52);
        x.train(1439);
        check.due("at the minute itself", x.bound(), 100 + 200 + 3 * 52);
        check.sentence("Promise 19", "BOUND (0 without TRAINS).");
        check.due("no trains", Check.of("root 9;place 0 1 9;want 1 1 500;").bound(), 0);
        check.due("no land", new PartingTrains().bound(), 0);
        check.due("no wants", withTrain(SEVEN, 0).bound(), 0);
    }

    private static void group() {
        check.sentence("Promise 20", "BEST GROUPING is put: how many PORTIONS change their TRAIN");
        PartingTrains x = Check.of(SEVEN);
        x.train(0);
        x.train(0);
        check.due("all come from no train", x.group(), 7);
        check.due("the first row", Check.row(x, 0), "0123456");
        check.due("none changes", x.group(), 0);
        x.clear(0);
        Check.putAll(x, 1, 0);
        Check.putAll(x, 0, 6, 5);
        check.due("four from no train, one from the other", x.group(), 5);
        check.due("the first row again", Check.row(x, 0), "0123456");
        check.due("the other has none", Check.row(x, 1), "");
        check.due("no portions", Check.of("root 5;").group(), 0);
        // Those that stay stand behind those that go on, though they are less.
        PartingTrains z = Check.of("root 9;place 0 1 9;place 1 1 9;fork 1 1 1;portion 1 1;portion 2 1;portion 1 1;engine 0 9;");
        z.train(0);
        z.train(0);
        check.due("three", z.group(), 3);
        check.due("the first row of them", Check.row(z, 0), "102");
        z.clear(0);
        Check.putAll(z, 0, 0, 1, 2);
        check.due("none changes its train", z.group(), 0);
        check.due("but the row", Check.row(z, 0), "102");
        check.sentence("Promise 20", "-2: there is none.");
        PartingTrains y = withTrain(TREE, 0, 1, 3);
        check.due("none", y.group(), -2);
        check.due("nothing changes", Check.row(y, 0), "13");
        check.due("no trains", Check.of(SEVEN).group(), -2);
    }

    private static void allAtTheirMost() {
        check.sentence("Terms 1", "PLACES 0 (the root), 1, .., 12 at most; PORTIONS 0, 1, .., 7 at most;"
                + " ENGINES likewise, 8; WANTS, 12.");
        // A line to place 4, where all part: seven groups to places 5 to 11.
        StringBuilder land = new StringBuilder("root 60;");
        for (int place = 1; place < 12; place++) {
            land.append("place ").append(Math.min(place - 1, 4)).append(" 1 60;");
        }
        for (int place = 5; place < 12; place++) {
            land.append("portion ").append(place).append(" 1;");
        }
        land.append("fork 4 2 1;engine 0 60;").append("engine 4 60;".repeat(7)).append("want 11 1 0;".repeat(12));
        PartingTrains x = Check.of(land.toString());
        for (int t = 0; t < 4; t++) {
            x.train(3 - t);
        }
        check.due("the most by one engine at the root", x.best(-1), 1200);
        check.due("all are put", x.group(), 7);
        check.due("into the first", Check.row(x, 0), "0123456");
        x.clear(0);
        Check.putAll(x, 3, 6, 5, 4, 3, 2, 1, 0);
        check.due("no error", x.error(3), 0);
        for (int p = 0; p < 7; p++) {
            check.due("engine", x.engine(p), 6 - p);
            check.due("arrives", x.arrives(p), 5 + 2 * (7 - p));
        }
        check.due("worth of the last want", x.worth(11), 100);
        check.due("worth", x.worth(-1), 1200);
        check.due("bound", x.bound(), 1200);
        check.due("why", x.why(3, 4), 0);
        check.due("cuts", x.cuts(3, 6), 6);
        check.due("sort", x.sort(3), 1);
        check.due("sorted", Check.row(x, 3), "0123456");
        check.due("why the last", x.why(3, 4), 12);
        check.due("all change but none", x.group(), 7);
        check.due("clear", x.clear(0), 7);
    }
}
