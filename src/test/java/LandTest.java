/** Promises 1 to 6: a new object, feed, land, fault, told, way. */
public final class LandTest {
    private static final Check check = new Check();

    public static void main(String[] args) {
        newObject();
        feed();
        land();
        faults();
        limits();
        told();
        way();
        check.end("LandTest");
    }

    private static void newObject() {
        PartingTrains x = new PartingTrains();
        for (int what = 0; what < 6; what++) {
            check.due("told of nothing", x.told(what), 0);
            check.due("count of nothing", x.count(what), 0);
        }
        check.due("fault at first", x.fault(), PartingTrains.NONE);
        check.due("orders of the empty set", x.orders(0), 1);
        check.due("first of the empty set", x.first(0, 0), -1);
        check.illegal("orders without a land", () -> x.orders(1));
        check.outOfBounds("way without a land", () -> x.way(0, 0));
        check.outOfBounds("shut without a land", () -> x.shut(0, true));
        check.outOfBounds("hold without a land", () -> x.hold(0, 0));
        check.outOfBounds("bestWait without a land", () -> x.bestWait(0));
        check.outOfBounds("job without a land", () -> x.job(0, 0, 0, 1));
        check.illegal("engine without a land", () -> x.engine(0));
        check.illegal("evening without a land", () -> x.evening(0, 0));
        check.refused("train without a land", IllegalStateException.class, () -> x.train(0));
        check.noSuch("put without a land", () -> x.put(0, 0));
        check.due("best without a land", x.best(-1), 0);
        check.due("group without a land", x.group(), 0);
        check.due("bound without a land", x.bound(), 0);
        check.due("worth without a land", x.worth(-1), 0);
        check.due("rows without a land", x.rows(0), 0);
        check.due("harm without a land", x.harm(0), 0);
        check.due("mean without a land", x.mean(), 0);
        check.due("settle without a land", x.settle(), 0);
        check.due("fewest without a land", x.fewest(), 0);
        check.due("proof without a land", x.proof(), 0);
        check.due("light without a land", x.light(1, 0), -1);
        check.due("day without a land", x.day(5), 0);
        check.due("run without a land", x.run(5, 200), 0);
        check.due("restore without an image", x.restore(), -1);
    }

    private static void feed() {
        PartingTrains x = new PartingTrains();
        for (int i = 1; i <= 25; i++) {
            check.due("feed", x.feed(0x20202020, 0x20202020, 0x20202020, 0x20202020, 0x20202020), 20 * i);
        }
        check.due("feed of too much", x.feed(0, 0, 0, 0, 0), -1);
        check.due("tape after it", x.count(5), 500);
        check.due("land of blanks", x.land(500), -9);
        check.due("fault at the length", x.fault(), 500);
        check.due("tape is empty then", x.count(5), 0);
        // "root 7;place 0 1 2;" by hand: the highest byte first.
        check.due("feed by hand", x.feed(0x726f6f74, 0x20373b70, 0x6c616365, 0x20302031, 0x20323b00), 20);
        check.due("land of it", x.land(19), 2);
    }

    private static void land() {
        PartingTrains x = new PartingTrains();
        check.illegal("land of more than the tape", () -> x.land(1));
        check.illegal("land of less than nothing", () -> x.land(-1));
        check.due("land of nothing", x.land(0), -9);
        check.due("its fault", x.fault(), 0);
        Check.feedText(x, "root 7;");
        check.illegal("land of too much", () -> x.land(21));
        check.due("the tape stays", x.count(5), 20);
        check.due("the fault stays", x.fault(), 0);
        check.due("land of the first bytes", x.land(7), 1);
        check.due("no fault", x.fault(), -1);
        check.due("the tape is empty", x.count(5), 0);
        check.due("a land with a fault", Check.tell(x, "root 7;place 0 1;"), -9);
        check.due("the land stays", x.told(0), 1);
        check.due("the tape is empty behind a fault too", x.count(5), 0);
        check.due("the whole land", Check.tell(x, Check.LAND), 5);
        x.train(3);
        x.put(0, 1);
        x.job(0, 1, 0, 2);
        x.shut(1, true);
        x.hold(1, 9);
        x.days(0, 3);
        x.evening(0, 7);
        x.image();
        check.due("a fault leaves the plan", Check.tell(x, "x"), -9);
        check.due("trains stay", x.count(0), 1);
        check.due("images stay", x.count(4), 1);
        check.due("the land again", Check.tell(x, Check.LAND), 5);
        for (int what = 0; what < 6; what++) {
            check.due("all is ended " + what, x.count(what), 0);
        }
        check.due("waits are ended", x.hold(1, 0), 0);
        check.due("days are ended", x.days(0, 1), 127);
        check.due("minutes are ended", x.evening(0, 1), 1080);
        check.due("what is shut is ended", x.shut(1, false), false);
    }

    private static void fault(String text, int kind, int at) {
        PartingTrains x = new PartingTrains();
        check.due("land of " + text, Check.tell(x, text), kind - 10);
        check.due("fault of " + text, x.fault(), at);
        check.due("nothing told by " + text, x.told(0), 0);
    }

    private static void well(String text, int places) {
        PartingTrains x = new PartingTrains();
        check.due("land of " + text, Check.tell(x, text), places);
        check.due("fault of " + text, x.fault(), -1);
    }

    private static void faults() {
        well("root 1;", 1);
        well("root60;", 1);
        well("  root  0060  ;  ", 1);
        well("root 5;place0 240 60;fork 1 60 1;portion 1 15;late 0 19 120;late 0 0 1;engine 0 60;want 1 999 1439;", 2);
        well("root 5 ; place 0 1 1 ; fork 0 1 1;want 1 1 0;engine 1 1;portion 1 1;", 2);
        fault("", 1, 0);
        fault("   ", 1, 3);
        fault("place 0 1 1;", 1, 0);
        fault("roots 5;", 1, 0);
        fault("roo 5;", 1, 0);
        fault(" Root 5;", 1, 1);
        fault("root 5", 1, 6);
        fault("root 5  ", 1, 8);
        fault("root ;", 1, 5);
        fault("root -5;", 1, 5);
        fault("root 5,", 1, 6);
        fault("root 5 5;", 1, 7);
        fault("root 0;", 2, 5);
        fault("root 61;", 2, 5);
        fault("root 99999999999999999999;", 2, 5);
        fault("root 4294967297;", 2, 5);
        fault("root 5;root 5;", 1, 7);
        fault("root 5;;", 1, 7);
        fault("root 5; 7", 1, 8);
        fault("root 5;place", 1, 12);
        fault("root 5;placex 0 1 1;", 1, 7);
        fault("root 5;place 1 1 1;", 2, 13);
        fault("root 5;place 0 0 1;", 2, 15);
        fault("root 5;place 0 241 1;", 2, 15);
        fault("root 5;place 0 1 0;", 2, 17);
        fault("root 5;place 0 1 61;", 2, 17);
        fault("root 5;fork 1 1 1;", 2, 12);
        fault("root 5;fork 0 0 1;", 2, 14);
        fault("root 5;fork 0 1 61;", 2, 16);
        fault("root 5;portion 0 1;", 2, 15);
        fault("root 5;place 0 1 1;portion 0 1;", 2, 27);
        fault("root 5;place 0 1 1;portion 2 1;", 2, 27);
        fault("root 5;place 0 1 1;portion 1 16;", 2, 29);
        fault("root 5;place 0 1 1;late 0 1 1;", 2, 24);
        fault("root 5;place 0 1 1;portion 1 1;late 0 20 1;", 2, 38);
        fault("root 5;place 0 1 1;portion 1 1;late 0 1 121;", 2, 40);
        fault("root 5;place 0 1 1;portion 1 1;late 0 1 0;", 2, 40);
        fault("root 5;engine 0 61;", 2, 16);
        fault("root 5;engine 0 0;", 2, 16);
        fault("root 5;want 0 1 1;", 2, 12);
        fault("root 5;place 0 1 1;want 1 0 1;", 2, 26);
        fault("root 5;place 0 1 1;want 1 1000 1;", 2, 26);
        fault("root 5;place 0 1 1;want 1 1 1440;", 2, 28);
        fault("root 5;place 9 x", 2, 13);
        fault("root 5;place\t0 1 1;", 1, 12);
        fault("root 5;\u00e9", 1, 7);
    }

    private static void limits() {
        StringBuilder places = new StringBuilder("root 5;");
        for (int i = 0; i < 11; i++) {
            places.append("place 0 1 1;");
        }
        well(places.toString(), 12);
        fault(places + " place 99", 3, places.length() + 1);
        StringBuilder portions = new StringBuilder("root 5;place 0 1 1;");
        for (int i = 0; i < 7; i++) {
            portions.append("portion 1 1;");
        }
        well(portions.toString(), 2);
        fault(portions + "portion 9", 3, portions.length());
        fault(portions + "portions 9", 1, portions.length());
        StringBuilder engines = new StringBuilder("root 5;");
        for (int i = 0; i < 8; i++) {
            engines.append("engine 0 1;");
        }
        well(engines.toString(), 1);
        fault(engines + "engine", 3, engines.length());
        StringBuilder wants = new StringBuilder("root 5;place 0 1 1;");
        for (int i = 0; i < 12; i++) {
            wants.append("want 1 1 1;");
        }
        well(wants.toString(), 2);
        fault(wants + "want 1 1 1;", 3, wants.length());
        StringBuilder clauses = new StringBuilder("root 5;");
        for (int i = 0; i < 39; i++) {
            clauses.append("fork 0 1 1;");
        }
        well(clauses + "  ", 1);
        fault(clauses + " fork 9 0 0", 3, clauses.length() + 1);
        fault(clauses + "fark 9 0 0", 1, clauses.length());
        fault(clauses + "root 5;", 1, clauses.length());
        fault(clauses + ";", 1, clauses.length());
    }

    private static void told() {
        PartingTrains x = Check.of(Check.LAND);
        int[] due = {5, 4, 3, 3, 2, 17};
        for (int what = 0; what < due.length; what++) {
            check.due("told " + what, x.told(what), due[what]);
        }
        x.shut(1, true);
        check.due("a shut fork is still told", x.told(4), 2);
        check.illegal("told -1", () -> x.told(-1));
        check.illegal("told 6", () -> x.told(6));
        PartingTrains y = Check.of("root 9;fork 0 1 1;fork 0 2 2;place 0 1 1;portion 1 3;portion 1 4;");
        check.due("a fork told twice", y.told(4), 1);
        check.due("carriages", y.told(5), 7);
    }

    private static void way() {
        PartingTrains x = Check.of(Check.LAND);
        int[][] due = {{0, 10, 30, 40, 5}, {10, 0, 20, 30, 15}, {30, 20, 0, 50, 35}, {40, 30, 50, 0, 45},
                {5, 15, 35, 45, 0}};
        for (int a = 0; a < 5; a++) {
            for (int b = 0; b < 5; b++) {
                check.due("way " + a + " " + b, x.way(a, b), due[a][b]);
            }
        }
        check.outOfBounds("way from no place", () -> x.way(-1, 0));
        check.outOfBounds("way from the sixth place", () -> x.way(5, 0));
        check.outOfBounds("way to no place", () -> x.way(0, 5));
        check.outOfBounds("way to a place below", () -> x.way(0, Integer.MIN_VALUE));
    }
}
