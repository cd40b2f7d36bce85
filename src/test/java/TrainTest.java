/** Promises 7 to 20: orders and first, trains and how they are judged, worth, the best grouping. */
public final class TrainTest {
    private static final Check check = new Check();

    public static void main(String[] args) {
        orders();
        first();
        train();
        put();
        sortAndClear();
        lawfulTrain();
        shutIn();
        tooLong();
        noFork();
        enginesLack();
        orderOfErrors();
        worth();
        best();
        bestIsFirst();
        bound();
        group();
        check.end("TrainTest");
    }

    private static void orders() {
        PartingTrains x = Check.of(Check.LAND);
        check.due("orders of none", x.orders(0), 1);
        check.due("orders of one", x.orders(8), 1);
        check.due("orders of two", x.orders(9), 2);
        check.due("orders where one stays", x.orders(7), 2);
        check.due("orders of all", x.orders(15), 4);
        check.illegal("orders of too many bits", () -> x.orders(16));
        check.illegal("orders of bits below", () -> x.orders(-1));
        PartingTrains y = Check.of("root 9;place 0 1 9;portion 1 1;portion 1 1;portion 1 1;portion 1 1;"
                + "portion 1 1;portion 1 1;portion 1 1;");
        check.due("orders of those that stay", y.orders(127), 5040);
        check.due("orders of those that stay", y.orders(7), 6);
    }

    private static void first() {
        PartingTrains x = Check.of("root 20;place 0 1 20;place 1 1 20;place 0 1 20;"
                + "portion 1 1;portion 2 1;portion 3 1;portion 2 1;");
        int[] all = {1, 3, 0, 2};
        int[] some = {2, 3, 0};
        for (int k = 0; k < 4; k++) {
            check.due("first of all " + k, x.first(15, k), all[k]);
        }
        for (int k = 0; k < 3; k++) {
            check.due("first of some " + k, x.first(13, k), some[k]);
        }
        check.due("orders of all", x.orders(15), 4);
        check.due("orders of some", x.orders(13), 2);
        check.due("first beyond", x.first(13, 3), -1);
        check.due("first below", x.first(13, -1), -1);
        check.due("first far below", x.first(13, Integer.MIN_VALUE), -1);
        check.due("first of none", x.first(0, 0), -1);
        check.illegal("first of too many bits", () -> x.first(16, 0));
        check.illegal("first of bits below", () -> x.first(-5, 0));
    }

    private static void train() {
        PartingTrains x = new PartingTrains();
        check.refused("train without a land", IllegalStateException.class, () -> x.train(5));
        check.illegal("train at no minute without a land", () -> x.train(-1));
        Check.tell(x, Check.LAND);
        check.illegal("train at -1", () -> x.train(-1));
        check.illegal("train at 1440", () -> x.train(1440));
        check.due("no train yet", x.count(0), 0);
        check.due("train", x.train(0), 0);
        check.due("train", x.train(1439), 1);
        check.due("train", x.train(700), 2);
        check.due("train", x.train(700), 3);
        check.due("a fifth train", x.train(700), -1);
        check.illegal("a fifth train at no minute", () -> x.train(1440));
        check.due("four trains", x.count(0), 4);
    }

    private static void put() {
        PartingTrains x = Check.of(Check.LAND);
        check.noSuch("put into no train", () -> x.put(0, 0));
        check.noSuch("put of nothing into no train", () -> x.put(0, 9));
        x.train(600);
        x.train(601);
        check.noSuch("put below", () -> x.put(-1, 0));
        check.noSuch("put beyond", () -> x.put(2, 0));
        check.illegal("put of no portion", () -> x.put(0, 4));
        check.illegal("put of a portion below", () -> x.put(0, -1));
        check.due("put", x.put(0, 3), 1);
        check.due("put", x.put(0, 1), 2);
        check.due("put again", x.put(0, 3), -1);
        check.due("put elsewhere", x.put(1, 1), -1);
        check.due("put elsewhere", x.put(1, 0), 1);
        check.due("portions in trains", x.count(1), 3);
        check.due("row", x.row(0, 0), 3);
        check.due("row", x.row(0, 1), 1);
        check.due("row beyond", x.row(0, 2), -1);
        check.due("row below", x.row(0, -1), -1);
        check.due("row of the next", x.row(1, 0), 0);
        check.noSuch("row of no train", () -> x.row(2, 0));
        check.noSuch("row of a train below", () -> x.row(-1, 0));
    }

    private static void sortAndClear() {
        PartingTrains x = Check.of(Check.LAND);
        x.train(600);
        x.train(600);
        check.due("sort of nothing", x.sort(0), 0);
        Check.putAll(x, 1, 3, 2, 1, 0);
        check.due("sort", x.sort(1), 1);
        for (int k = 0; k < 4; k++) {
            check.due("sorted row", x.row(1, k), k);
        }
        check.due("sort again", x.sort(1), 0);
        check.due("clear of nothing", x.clear(0), 0);
        check.due("clear", x.clear(1), 4);
        check.due("clear again", x.clear(1), 0);
        check.due("row of the cleared", x.row(1, 0), -1);
        check.due("put behind clear", x.put(0, 2), 1);
        check.due("trains stay", x.count(0), 2);
        check.noSuch("sort of no train", () -> x.sort(2));
        check.noSuch("clear of no train", () -> x.clear(-1));
    }

    private static void lawfulTrain() {
        PartingTrains x = Check.of(Check.LAND);
        x.train(600);
        check.due("an empty train has no error", x.error(0), 0);
        check.due("in no train", x.arrives(0), -1);
        check.due("in no train", x.engine(0), -1);
        Check.putAll(x, 0, 0, 1, 2, 3);
        check.due("error", x.error(0), 0);
        int[] arrives = {635, 648, 612, 609};
        int[] engines = {0, 1, 0, 2};
        for (int p = 0; p < 4; p++) {
            check.due("arrives " + p, x.arrives(p), arrives[p]);
            check.due("engine " + p, x.engine(p), engines[p]);
        }
        x.clear(0);
        Check.putAll(x, 0, 1, 0, 2);
        check.due("error", x.error(0), 0);
        check.due("without cuts at once", x.arrives(2), 610);
        check.due("the first group", x.arrives(1), 643);
        check.due("the second group", x.arrives(0), 636);
        check.due("engine of the second group", x.engine(0), 1);
        check.due("engine of the first group", x.engine(1), 0);
        check.noSuch("error of no train", () -> x.error(1));
        check.noSuch("error of a train below", () -> x.error(-1));
        check.illegal("engine of no portion", () -> x.engine(4));
        check.illegal("engine of a portion below", () -> x.engine(-1));
        check.illegal("arrives of no portion", () -> x.arrives(4));
        check.illegal("arrives of a portion below", () -> x.arrives(-1));
    }

    private static void shutIn() {
        PartingTrains x = Check.of(Check.LAND);
        x.train(600);
        Check.putAll(x, 0, 2, 0);
        check.due("those that stay not last", x.error(0), 201);
        check.due("arrives", x.arrives(0), -1);
        check.due("engine", x.engine(2), -1);
        x.clear(0);
        Check.putAll(x, 0, 0, 3, 1);
        check.due("a group not together", x.error(0), 200);
        x.clear(0);
        Check.putAll(x, 0, 0, 2, 1);
        check.due("one that stays between groups", x.error(0), 201);
    }

    private static void tooLong() {
        PartingTrains x = Check.of("root 9;place 0 10 5;portion 1 3;portion 1 3;engine 0 60;");
        x.train(0);
        Check.putAll(x, 0, 0);
        check.due("short enough", x.error(0), 0);
        Check.putAll(x, 0, 1);
        check.due("too long at a place", x.error(0), 301);
        PartingTrains y = Check.of("root 5;place 0 10 6;portion 1 3;portion 1 3;engine 0 60;");
        y.train(0);
        Check.putAll(y, 0, 0, 1);
        check.due("too long at the root", y.error(0), 300);
    }

    private static void noFork() {
        PartingTrains x = Check.of(Check.LAND);
        x.train(600);
        x.shut(1, true);
        Check.putAll(x, 0, 0, 2);
        check.due("one stays at a shut fork", x.error(0), 401);
        x.clear(0);
        Check.putAll(x, 0, 2);
        check.due("all stay at a shut fork", x.error(0), 0);
        x.clear(0);
        Check.putAll(x, 0, 0);
        check.due("all go on at a shut fork", x.error(0), 0);
        Check.putAll(x, 0, 1);
        check.due("two groups at a shut fork", x.error(0), 401);
        x.shut(1, false);
        check.due("open again", x.error(0), 0);
        x.shut(0, true);
        check.due("no cuts at the root", x.error(0), 0);
        Check.putAll(x, 0, 3);
        check.due("cuts at the shut root", x.error(0), 400);
        PartingTrains y = Check.of("root 9;place 0 1 9;place 1 1 9;portion 1 1;portion 2 1;engine 0 9;");
        y.train(0);
        Check.putAll(y, 0, 1, 0);
        check.due("no fork", y.error(0), 401);
    }

    private static void enginesLack() {
        PartingTrains x = Check.of(Check.LAND);
        x.train(600);
        x.train(600);
        x.train(600);
        Check.putAll(x, 0, 3, 0, 1, 2);
        check.due("none for the second group at the root", x.error(0), 100);
        x.clear(0);
        Check.putAll(x, 0, 0);
        Check.putAll(x, 1, 3);
        Check.putAll(x, 2, 2);
        check.due("the least engine", x.engine(0), 0);
        check.due("the next engine", x.engine(3), 2);
        check.due("none is left", x.error(2), 100);
        check.due("none is left", x.engine(2), -1);
        x.clear(0);
        check.due("one is left", x.error(2), 0);
        check.due("the first one is taken by the train ahead", x.engine(3), 0);
        check.due("the other one", x.engine(2), 2);
        x.clear(1);
        check.due("the first is left", x.engine(2), 0);
        x.clear(2);
        x.shut(1, true);
        Check.putAll(x, 0, 0, 1);
        Check.putAll(x, 1, 3);
        Check.putAll(x, 2, 2);
        check.due("a train with an error", x.error(0), 401);
        check.due("what it took stays taken", x.engine(3), 2);
        check.due("so none is left", x.error(2), 100);
        PartingTrains y = Check.of("root 9;place 0 1 9;place 1 1 9;place 1 1 9;fork 1 1 1;"
                + "portion 2 2;portion 3 3;engine 0 5;engine 1 2;engine 2 9;");
        y.train(0);
        Check.putAll(y, 0, 0, 1);
        check.due("too weak for the second group", y.error(0), 101);
        y.clear(0);
        Check.putAll(y, 0, 1, 0);
        check.due("strong enough", y.error(0), 0);
        PartingTrains z = Check.of("root 20;place 0 1 20;place 0 1 20;fork 0 1 1;portion 1 3;portion 2 3;"
                + "engine 0 5;engine 0 6;");
        z.train(0);
        Check.putAll(z, 0, 0, 1);
        check.due("at the root it pulls the whole row", z.engine(0), 1);
        check.due("the second group takes the least", z.engine(1), 0);
    }

    private static void orderOfErrors() {
        PartingTrains x = Check.of("root 5;place 0 1 9;place 0 1 9;portion 1 3;portion 2 3;portion 1 3;");
        x.train(0);
        Check.putAll(x, 0, 0, 1, 2);
        check.due("too long ahead of shut in", x.error(0), 300);
        PartingTrains y = Check.of("root 9;place 0 1 9;place 0 1 9;portion 1 3;portion 2 3;portion 1 3;");
        y.train(0);
        Check.putAll(y, 0, 0, 1, 2);
        check.due("shut in ahead of no fork", y.error(0), 200);
        y.sort(0);
        check.due("no fork ahead of no engine", y.error(0), 400);
        y.clear(0);
        Check.putAll(y, 0, 0);
        check.due("no engine", y.error(0), 100);
    }

    private static void worth() {
        PartingTrains x = Check.of(Check.LAND);
        check.due("worth without trains", x.worth(-1), 0);
        x.train(600);
        x.train(800);
        check.due("worth of empty trains", x.worth(-1), 0);
        Check.putAll(x, 0, 2);
        check.due("by a change", x.worth(0), 5000);
        check.due("by a change", x.worth(1), 2500);
        check.due("not served", x.worth(2), 0);
        check.due("together", x.worth(-1), 7500);
        Check.putAll(x, 1, 3);
        check.due("served far", x.worth(2), 900);
        x.clear(0);
        Check.putAll(x, 0, 0, 1, 2);
        check.due("served", x.worth(0), 10000);
        check.due("five minutes are nothing", x.worth(1), 5000);
        check.due("together", x.worth(-1), 15900);
        x.shut(1, true);
        check.due("a train with an error serves nothing", x.worth(-1), 900);
        check.illegal("worth of no want", () -> x.worth(3));
        check.illegal("worth of a want below", () -> x.worth(-2));
        PartingTrains y = Check.of("root 9;place 0 1 9;place 1 1 9;portion 1 1;engine 0 9;want 2 1 19;want 1 7 1439;");
        y.train(0);
        Check.putAll(y, 0, 0);
        check.due("half is cut", y.worth(0), 49);
        check.due("far is ninety at most", y.worth(1), 70);
        check.due("together", y.worth(-1), 119);
    }

    private static void best() {
        PartingTrains x = Check.of(Check.LAND);
        check.due("without trains", x.best(-1), -2);
        check.due("without trains", x.best(0), -2);
        x.train(600);
        x.train(700);
        check.due("best", x.best(-1), 16000);
        int[] due = {0, 0, 0, 1};
        for (int p = 0; p < 4; p++) {
            check.due("best " + p, x.best(p), due[p]);
        }
        x.shut(1, true);
        check.due("none", x.best(-1), -2);
        check.due("none", x.best(3), -2);
        x.train(650);
        check.due("still none: engines lack", x.best(-1), -2);
        x.shut(1, false);
        check.due("best again", x.best(-1), 16000);
        check.illegal("best of no portion", () -> x.best(4));
        check.illegal("best of a portion below", () -> x.best(-2));
        check.due("nothing is put", x.count(1), 0);
    }

    private static void bestIsFirst() {
        PartingTrains x = Check.of("root 9;place 0 1 9;place 1 1 9;fork 1 1 1;portion 1 1;portion 2 1;"
                + "engine 0 9;engine 0 9;want 1 2 0;");
        x.train(5);
        x.train(0);
        check.due("best", x.best(-1), 200);
        check.due("the first of equals", x.best(0), 0);
        check.due("the first of equals", x.best(1), 0);
    }

    private static void bound() {
        PartingTrains x = Check.of(Check.LAND);
        check.due("bound without trains", x.bound(), 0);
        x.train(600);
        check.due("bound", x.bound(), 15900);
        x.train(700);
        check.due("bound", x.bound(), 16000);
        x.shut(1, true);
        check.due("bound of what can't be", x.bound(), 16000);
    }

    private static void group() {
        PartingTrains x = Check.of(Check.LAND);
        check.due("group without trains", x.group(), -2);
        x.train(600);
        x.train(700);
        Check.putAll(x, 0, 2);
        Check.putAll(x, 1, 0);
        check.due("group", x.group(), 3);
        for (int k = 0; k < 3; k++) {
            check.due("row of the first", x.row(0, k), k);
        }
        check.due("row of the second", x.row(1, 0), 3);
        check.due("all are put", x.count(1), 4);
        check.due("worth", x.worth(-1), 16000);
        check.due("group again", x.group(), 0);
        x.clear(0);
        Check.putAll(x, 0, 2, 1, 0);
        check.due("only the order changes", x.group(), 0);
        check.due("but it changes", x.row(0, 0), 0);
        x.shut(1, true);
        check.due("no grouping", x.group(), -2);
        check.due("nothing changes", x.count(1), 4);
        PartingTrains y = Check.of("root 9;");
        check.due("no portions", y.group(), 0);
        check.due("no portions", y.best(-1), 0);
    }
}
