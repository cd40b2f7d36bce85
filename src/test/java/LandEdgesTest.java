/** The edges that "Terms" ==== 1 and promises 1 to 6 name, sentence by sentence. */
public final class LandEdgesTest {
    private static final Check check = new Check();
    private static final String SMALL = "root 5;place 0 1 1;portion 1 1;";
    // Each kind as often as it may stand, and forty clauses in all.
    private static final String FULL = "root 5;" + "place 0 1 1;".repeat(11) + "portion 1 1;".repeat(7)
            + "engine 0 1;".repeat(8) + "want 1 1 1;".repeat(12) + "fork 0 1 1;";

    public static void main(String[] args) {
        bytesOfALand();
        clausesInAll();
        semicolons();
        mostOfEachKind();
        numbersInTheirRange();
        placesToldAhead();
        notTheRoot();
        lastCounts();
        digits();
        words();
        blanks();
        endsTooEarly();
        rootFirstAndOnce();
        firstFromTheLeft();
        leastOfOne();
        nothingWithoutALand();
        alongTheTree();
        newObject();
        feed();
        land();
        landThatIsRefused();
        endsAll();
        fault();
        told();
        way();
        check.end("LandEdgesTest");
    }

    private static void well(String text, int places) {
        PartingTrains x = new PartingTrains();
        check.due("land of " + text, Check.tell(x, text), places);
        check.due("fault of " + text, x.fault(), PartingTrains.NONE);
    }

    private static void faulty(String text, int kind, int at) {
        PartingTrains x = new PartingTrains();
        check.due("land of " + text, Check.tell(x, text), kind - 10);
        check.due("fault of " + text, x.fault(), at);
        check.due("places of " + text, x.told(0), 0);
    }

    private static void bytesOfALand() {
        check.sentence("Terms 1", "A LAND is a text of up to 500 bytes");
        String blanks = " ".repeat(482);
        PartingTrains x = Check.of("root 5;" + blanks + "fork 0 1 1;");
        check.due("the last bytes are read", x.told(4), 1);
        faulty("root 5;" + blanks + "fork 0 1 1,", 1, 499);
        faulty("root 5;" + blanks + "fork 0 1 10", 1, 500);
        faulty(" ".repeat(500), 1, 500);
    }

    private static void clausesInAll() {
        check.sentence("Terms 1", "40 in all");
        String forty = "root 5;" + "fork 0 1 1;".repeat(39);
        well(forty, 1);
        well(FULL, 12);
        faulty(forty + "fork 0 1 1;", 3, 436);
        for (String clause : new String[] {"place 0 1 1;", "fork 0 1 1;", "portion 1 1;", "late 0 1 1;", "engine 0 1;",
            "want 1 1 1;"}) {
            faulty(FULL + "  " + clause, 3, FULL.length() + 2);
        }
    }

    private static void semicolons() {
        check.sentence("Terms 1", "each with \";\" behind it");
        for (String clause : new String[] {"place 0 1 1", "fork 0 1 1", "portion 1 1", "late 0 1 1", "engine 0 1",
            "want 1 1 1"}) {
            int end = SMALL.length() + clause.length();
            faulty(SMALL + clause, 1, end);
            faulty(SMALL + clause + " 1;", 1, end + 1);
            faulty(SMALL + clause + ":", 1, end);
            faulty(SMALL + clause + ";;", 1, end + 1);
            well(SMALL + clause + ";", clause.charAt(1) == 'l' ? 3 : 2);
        }
        faulty("root 5 fork 0 1 1;", 1, 7);
    }

    private static void mostOfEachKind() {
        check.sentence("Terms 1", "PLACES 0 (the root), 1, .., 12 at most; PORTIONS 0, 1, .., 7 at most;"
                + " ENGINES likewise, 8; WANTS, 12.");
        most("root 5;", "place 0 1 1;", 11, 0, 12);
        most("root 5;place 0 1 1;", "portion 1 1;", 7, 1, 7);
        most("root 5;", "engine 0 1;", 8, 2, 8);
        most("root 5;place 0 1 1;", "want 1 1 1;", 12, 3, 12);
    }

    private static void most(String ahead, String clause, int many, int what, int told) {
        String full = ahead + clause.repeat(many);
        check.due("told by " + full, Check.of(full).told(what), told);
        check.due("told by one less", Check.of(ahead + clause.repeat(many - 1)).told(what), told - 1);
        faulty(full + clause, 3, full.length());
        // Nothing behind the word is looked at, it stands further right.
        faulty(full + clause.substring(0, clause.indexOf(' ')), 3, full.length());
        // One of another kind may still come.
        check.due("forks behind " + full, Check.of(full + "fork 0 1 1;").told(4), 1);
    }

    private static void numbersInTheirRange() {
        check.sentence("Terms 1", "P: told ahead (of portion and want not the root); M 1 to 240; L 1 to 60;"
                + " A, B 1 to 60; C 1 to 15 (of an ENGINE 1 to 60); K: told ahead; N 0 to 19 (of want 1 to 999);"
                + " D 1 to 120; H 0 to 1,439.");
        range("", "root ", ";", 1, 60);
        range(SMALL, "place ", " 1 1;", 0, 1);
        range(SMALL, "place 0 ", " 1;", 1, 240);
        range(SMALL, "place 0 1 ", ";", 1, 60);
        range(SMALL, "fork ", " 1 1;", 0, 1);
        range(SMALL, "fork 0 ", " 1;", 1, 60);
        range(SMALL, "fork 0 1 ", ";", 1, 60);
        range(SMALL, "portion ", " 1;", 1, 1);
        range(SMALL, "portion 1 ", ";", 1, 15);
        range(SMALL, "late ", " 1 1;", 0, 0);
        range(SMALL, "late 0 ", " 1;", 0, 19);
        range(SMALL, "late 0 1 ", ";", 1, 120);
        range(SMALL, "engine ", " 1;", 0, 1);
        range(SMALL, "engine 0 ", ";", 1, 60);
        range(SMALL, "want ", " 1 1;", 1, 1);
        range(SMALL, "want 1 ", " 1;", 1, 999);
        range(SMALL, "want 1 1 ", ";", 0, 1439);
    }

    /** A number at its edges and beyond them, and one that would wrap round into its range. */
    private static void range(String land, String ahead, String behind, int low, int high) {
        String text = land + ahead;
        for (String number : new String[] {"" + low, "" + high, "000" + low, "0".repeat(60) + high}) {
            PartingTrains x = new PartingTrains();
            check.due("land of " + text + number, Check.tell(x, text + number + behind) > 0, true);
        }
        long round = 1L << 32;
        for (String number : new String[] {"" + (high + 1), "" + (round + low), "" + (-round + low), "1" + "0".repeat(70),
            "" + (256 * 256 + low), "18446744073709551617", "1" + "0".repeat(63) + high}) {
            boolean digits = number.charAt(0) != '-';
            faulty(text + number + behind, digits ? 2 : 1, text.length());
        }
        if (low > 0) {
            faulty(text + (low - 1) + behind, 2, text.length());
            faulty(text + "000" + (low - 1) + behind, 2, text.length());
        }
        faulty(text + "-" + low + behind, 1, text.length());
    }

    private static void placesToldAhead() {
        check.sentence("Terms 1", "P: told ahead");
        // A place can't hang on itself, nor on one told behind it.
        faulty("root 5;place 1 1 1;", 2, 13);
        faulty("root 5;place 0 1 1;place 2 1 1;", 2, 25);
        well("root 5;place 0 1 1;place 1 1 1;place 2 1 1;", 4);
        faulty("root 5;fork 1 1 1;place 0 1 1;", 2, 12);
        faulty("root 5;engine 1 1;place 0 1 1;", 2, 14);
        faulty("root 5;portion 1 1;place 0 1 1;", 2, 15);
        faulty("root 5;want 1 1 1;place 0 1 1;", 2, 12);
        check.sentence("Terms 1", "K: told ahead");
        faulty("root 5;place 0 1 1;late 0 1 1;portion 1 1;", 2, 24);
        faulty("root 5;place 0 1 1;portion 1 1;late 1 1 1;portion 1 1;", 2, 36);
        well("root 5;place 0 1 1;portion 1 1;portion 1 1;late 1 1 1;late 0 1 1;", 2);
    }

    private static void notTheRoot() {
        check.sentence("Terms 1", "(of portion and want not the root)");
        faulty("root 5;place 0 1 1;portion 0 1;", 2, 27);
        faulty("root 5;place 0 1 1;want 0 1 1;", 2, 24);
        faulty("root 5;place 0 1 1;want 00 1 1;", 2, 24);
        well("root 5;fork 0 1 1;engine 0 1;place 0 1 1;", 2);
    }

    private static void lastCounts() {
        check.sentence("Terms 1", "Of fork and late of one PLACE, PORTION the last counts.");
        PartingTrains x = Check.of("root 9;fork 0 7 1;place 0 1 9;place 0 1 9;portion 1 1;portion 2 1;late 0 19 9;"
                + "fork 0 3 1;late 1 0 5;late 0 0 4;engine 0 9;engine 0 9;");
        check.due("one fork", x.told(4), 1);
        x.train(100);
        Check.putAll(x, 0, 0, 1);
        check.due("leaves by the last A", x.arrives(0), 104);
        check.due("twice it", x.arrives(1), 107);
        check.due("late by the last D", x.reaches(0, 1), 1085);
        check.due("by the last N no chance", x.mean(), 60);
    }

    private static void digits() {
        check.sentence("Terms 1", "Numbers: digits, as many as stand there");
        well("root " + "0".repeat(480) + "60;", 1);
        faulty("root " + "0".repeat(480) + "61;", 2, 5);
        faulty("root " + "0".repeat(480) + ";", 2, 5);
        faulty("root " + "9".repeat(480) + ";", 2, 5);
        faulty("root ;", 1, 5);
        faulty("root;", 1, 4);
        faulty("root 5;place 0 1;", 1, 16);
        faulty("root 6 0;", 1, 7);
        faulty("root 5a;", 1, 6);
        faulty("root a5;", 1, 5);
        faulty("root +5;", 1, 5);
        faulty("root 5.0;", 1, 6);
        faulty("root /;", 1, 5);
        faulty("root :;", 1, 5);
        faulty("root 5/;", 1, 6);
        faulty("root 5:;", 1, 6);
        // A number that is none such stands left of what can't stand behind it.
        faulty("root 61a;", 2, 5);
    }

    private static void words() {
        check.sentence("Terms 1", "WORDS: small letters, as many as stand there");
        well("root5;place0 1 1;", 2);
        for (String word : new String[] {"plac", "places", "Place", "placE", "pla ce", "forks", "portio", "latee", "engin",
            "wants", "x", "rootplace"}) {
            faulty("root 5;" + word + " 0 1 1;", 1, 7);
        }
        for (String word : new String[] {"roots", "roo", "ROOT", "aoot", "roou", "roota", "rootz", "zroot"}) {
            faulty(word + " 5;", 1, 0);
        }
        for (String word : new String[] {"qlace", "gork", "qortion", "mate", "fngine", "vant", "placf", "forl", "portioo",
            "latf", "enginf", "wanu", "placez", "forka"}) {
            faulty("root 5;" + word + " 0 1 1;", 1, 7);
        }
        faulty("root 5;`", 1, 7);
        faulty("root 5;{", 1, 7);
        faulty("root 5;place` 0 1 1;", 1, 12);
        faulty("root 5;place{ 0 1 1;", 1, 12);
    }

    private static void blanks() {
        check.sentence("Terms 1", "blanks (32) may stand ahead of all these, and at the end");
        well("  root  5  ;  place  0  1  1  ;   ", 2);
        well("root5;place0 1 1;", 2);
        well("root 5; ", 1);
        for (char sign : new char[] {0, 9, 10, 13, 31, 33, 127, 128, 160, 255}) {
            faulty(sign + "root 5;", 1, 0);
            faulty("root" + sign + "5;", 1, 4);
            faulty("root 5" + sign + ";", 1, 6);
            faulty("root 5;" + sign, 1, 7);
            faulty("root 5;place 0 1" + sign + "1;", 1, 16);
        }
    }

    private static void endsTooEarly() {
        check.sentence("FAULTS", "at the length, if the text ends too early");
        String text = "root 5;place 0 12 34;";
        // For each length: where the fault is. A word that is cut short is another word, at its first byte.
        int[] at = {0, 0, 0, 0, 4, 5, 6, -1, 7, 7, 7, 7, 12, 13, 14, 15, 16, 17, 18, 19, 20, -1};
        for (int n = 0; n < at.length; n++) {
            PartingTrains x = new PartingTrains();
            Check.feedText(x, text + "   ");
            check.due("land of " + text.substring(0, n), x.land(n), at[n] >= 0 ? -9 : n == 7 ? 1 : 2);
            check.due("fault of " + text.substring(0, n), x.fault(), at[n]);
        }
        faulty("root 5;place 0 12 34   ", 1, 23);
        faulty("root    ", 1, 8);
    }

    private static void rootFirstAndOnce() {
        check.sentence("FAULTS", "also a second root, another word first");
        for (String word : new String[] {"place 0 1 1;", "fork 0 1 1;", "portion 1 1;", "late 0 1 1;", "engine 0 1;",
            "want 1 1 1;", "x"}) {
            faulty("  " + word + "root 5;", 1, 2);
        }
        faulty("root 5;root 5;", 1, 7);
        faulty(SMALL + " root 5;", 1, SMALL.length() + 1);
        faulty(";root 5;", 1, 0);
    }

    private static void firstFromTheLeft() {
        check.sentence("FAULTS", "the first from the left, at its first byte");
        faulty("root 0;place 9 9 9;x", 2, 5);
        faulty("root   061;x", 2, 7);
        faulty("root 5;place 9 x", 2, 13);
        faulty("root 5;place x 9", 1, 13);
        faulty("root 5;place 0 0 0;", 2, 15);
        faulty(SMALL + "want 1 0 9999;", 2, SMALL.length() + 7);
        faulty(SMALL + "want 1 1 9999,", 2, SMALL.length() + 9);
        faulty(SMALL + "late 0 20 999;", 2, SMALL.length() + 7);
    }

    private static void leastOfOne() {
        check.sentence("FAULTS", "of one the least");
        // The 41st clause is one too many; but a word that can't stand there is the lesser fault of the same byte.
        faulty(FULL + "root 5;", 1, FULL.length());
        faulty(FULL + "portions 1 1;", 1, FULL.length());
        faulty(FULL + ";", 1, FULL.length());
        faulty(FULL + "5", 1, FULL.length());
        faulty(FULL + "place 99 0 0;", 3, FULL.length());
    }

    private static void nothingWithoutALand() {
        check.sentence("FAULTS", "Without a LAND there is nothing of all this.");
        PartingTrains x = new PartingTrains();
        check.due("a faulty land is none", Check.tell(x, "root 5;place 0 1 1;portion 1 1;,"), -9);
        for (int what = 0; what < 6; what++) {
            check.due("told " + what, x.told(what), 0);
        }
        check.outOfBounds("no place", () -> x.way(0, 0));
        check.illegal("no portion", () -> x.orders(1));
        check.illegal("no want", () -> x.worth(0));
        check.refused("no train", IllegalStateException.class, () -> x.train(0));
        check.due("no place where engines wait", x.light(1, 0), -1);
    }

    private static void alongTheTree() {
        check.sentence("FAULTS", "WAY between two PLACES: the MINUTES along the tree.");
        StringBuilder line = new StringBuilder("root 5;");
        for (int p = 0; p < 11; p++) {
            line.append("place ").append(p).append(" 240 1;");
        }
        PartingTrains x = Check.of(line.toString());
        check.due("the longest", x.way(0, 11), 2640);
        check.due("back", x.way(11, 0), 2640);
        check.due("to itself", x.way(11, 11), 0);
        check.due("the root to itself", x.way(0, 0), 0);
        PartingTrains y = Check.of("root 5;place 0 7 1;place 1 11 1;place 1 13 1;place 0 17 1;place 2 19 1;");
        check.due("by the place where they meet", y.way(5, 3), 43);
        check.due("by the root", y.way(5, 4), 54);
        check.due("back by the root", y.way(4, 5), 54);
        check.due("down a line", y.way(1, 5), 30);
    }

    private static void newObject() {
        check.sentence("Promise 1", "No LAND.");
        PartingTrains x = new PartingTrains();
        for (int what = 0; what < 6; what++) {
            check.due("told " + what, x.told(what), 0);
            check.due("count " + what, x.count(what), 0);
        }
        check.due("no fault", x.fault(), PartingTrains.NONE);
        check.due("NONE", PartingTrains.NONE, -1);
    }

    private static void feed() {
        check.sentence("Promise 2", "Twenty bytes come on the TAPE, of each number the highest first: how many there are");
        PartingTrains x = new PartingTrains();
        check.due("feed", x.feed(0x726f6f74, 0x20373b70, 0x6c616365, 0x20302031, 0x20323b00), 20);
        check.due("its bytes in order", x.land(19), 2);
        x.feed(0x20202020, 0x20202020, 0x20202020, 0x20202020, 0x202020a0);
        check.due("a byte above 127", x.land(20), -9);
        check.due("is the last one", x.fault(), 19);
        check.sentence("Promise 2", "NONE, doing nothing, if there would be more than 500.");
        PartingTrains y = new PartingTrains();
        String text = "root 5;" + " ".repeat(482) + "fork 0 1 1;";
        Check.feedText(y, text.substring(0, 480));
        check.due("500 are not more", y.feed(0x20202020, 0x2020666f, 0x726b2030, 0x20312031, 0x3b202020), 500);
        check.due("more", y.feed(-1, -1, -1, -1, -1), PartingTrains.NONE);
        check.due("more again", y.feed(0, 0, 0, 0, 0), PartingTrains.NONE);
        check.due("the tape", y.count(5), 500);
        check.due("what was there stays", y.land(500), 1);
        check.due("fed", y.feed(0, 0, 0, 0, 0), 20);
    }

    private static void land() {
        check.sentence("Promise 3", "The first n bytes of the TAPE (empty then) are the LAND: how many PLACES");
        PartingTrains x = new PartingTrains();
        Check.feedText(x, "root 5;place 0 1 1;x");
        check.due("the first bytes", x.land(19), 2);
        check.due("empty then", x.count(5), 0);
        check.due("no byte", x.land(0), -9);
        check.due("its fault", x.fault(), 0);
        Check.feedText(x, "root 5;");
        Check.feedText(x, "place 0 1 1;");
        check.due("the bytes behind a text count too", x.land(40), -9);
        check.due("the first of them", x.fault(), 7);
        check.sentence("Promise 3", "or the FAULT less 10 (the LAND stays)");
        PartingTrains y = Check.of(Check.LAND);
        y.train(600);
        y.put(0, 3);
        y.hold(1, 9);
        y.image();
        check.due("what can't stand there", Check.tell(y, "root 5"), -9);
        check.due("a number that is none such", Check.tell(y, "root 0;"), -8);
        check.due("one too many", Check.tell(y, FULL + "fork 0 1 1;"), -7);
        check.due("empty behind a fault too", y.count(5), 0);
        check.due("places", y.told(0), 5);
        check.due("carriages", y.told(5), 17);
        check.due("ways", y.way(2, 3), 50);
        check.due("trains", y.arrives(3), 605);
        check.due("waits", y.hold(1, 9), 9);
        check.due("images", y.count(4), 1);
    }

    private static void landThatIsRefused() {
        check.sentence("Promise 3", "n is not 0 to the TAPE's bytes (it stays)");
        PartingTrains x = new PartingTrains();
        check.illegalBeyond("land of no tape", 0, 0, x::land);
        Check.feedText(x, "root 5;place 0 1 1;");
        check.illegalBeyond("land", 0, 20, x::land);
        check.due("the tape", x.count(5), 20);
        check.due("no fault", x.fault(), -1);
        check.due("its bytes", x.land(19), 2);
        Check.feedText(x, " ".repeat(500));
        check.illegalBeyond("land of a full tape", 0, 500, x::land);
        check.due("the full tape", x.count(5), 500);
        check.due("the land stays", x.told(0), 2);
        check.due("all of it", x.land(500), -9);
    }

    private static void endsAll() {
        check.sentence("Terms 5", "A LAND that is well read ends all TRAINS, JOBS, IMAGES, what is SHUT, WAITS, DAYS,"
                + " MINUTES told.");
        PartingTrains x = Check.of(Check.LAND);
        for (int i = 0; i < 4; i++) {
            x.train(600 + i);
            x.put(i, i);
        }
        for (int p = 0; p < 4; p++) {
            x.days(p, 1);
            x.evening(p, p);
        }
        for (int i = 0; i < 14; i++) {
            x.job(0, 0, 0, 1);
        }
        for (int place = 0; place < 2; place++) {
            x.shut(place, true);
            x.hold(place, 60);
        }
        check.due("images", x.image() + x.image() + x.image(), 6);
        check.due("the same land again", Check.tell(x, Check.LAND), 5);
        for (int what = 0; what < 6; what++) {
            check.due("count " + what, x.count(what), 0);
        }
        check.due("no image to go back to", x.restore(), -1);
        check.noSuch("no train", () -> x.row(0, 0));
        for (int p = 0; p < 4; p++) {
            check.due("days", x.days(p, 0), 127);
            check.due("evening", x.evening(p, 0), 1080);
        }
        for (int place = 0; place < 2; place++) {
            check.due("shut", x.shut(place, false), false);
            check.due("wait", x.hold(place, 0), 0);
        }
        check.due("trains from 0 on", x.train(5), 0);
        check.due("in no train", x.put(0, 3), 1);
        check.due("jobs from 0 on", x.job(0, 0, 0, 1), 0);
        check.due("images from 1 on", x.image(), 1);
        check.due("a smaller land", Check.tell(x, "root 5;"), 1);
        for (int what = 0; what < 6; what++) {
            check.due("told of a smaller land " + what, x.told(what), what == 0 ? 1 : 0);
        }
    }

    private static void fault() {
        check.sentence("Promise 4", "The place of the FAULT of the latest land(); NONE without.");
        PartingTrains x = new PartingTrains();
        check.due("no land yet", x.fault(), -1);
        Check.tell(x, "root x;");
        check.due("a fault", x.fault(), 5);
        check.due("it does not go by being asked", x.fault(), 5);
        Check.tell(x, "x");
        check.due("the latest", x.fault(), 0);
        Check.tell(x, "root 5;");
        check.due("without", x.fault(), -1);
    }

    private static void told() {
        check.sentence("Promise 5", "0 PLACES, 1 PORTIONS, 2 ENGINES, 3 WANTS, 4 forks, 5 CARRIAGES together.");
        int[] few = {1, 0, 0, 0, 0, 0};
        int[] many = {12, 7, 8, 12, 1, 7};
        PartingTrains x = Check.of("root 5;");
        PartingTrains y = Check.of(FULL);
        for (int what = 0; what < 6; what++) {
            check.due("told of a root " + what, x.told(what), few[what]);
            check.due("told of a full land " + what, y.told(what), many[what]);
        }
        PartingTrains z = Check.of("root 5;place 0 1 1;" + "portion 1 15;".repeat(7) + "fork 0 1 1;fork 1 1 1;fork 0 2 2;");
        check.due("the most carriages", z.told(5), 105);
        z.shut(0, true);
        check.due("forks that are shut are forks", z.told(4), 2);
        check.sentence("Promise 5", "IllegalArgumentException: another what (so below).");
        check.illegalBeyond("told", 0, 5, z::told);
        check.illegalBeyond("told without a land", 0, 5, new PartingTrains()::told);
    }

    private static void way() {
        check.sentence("Promise 6", "IndexOutOfBoundsException: no such PLACE (so below).");
        PartingTrains x = Check.of(FULL);
        check.due("to the last place", x.way(0, 11), 1);
        check.due("from the last place", x.way(11, 10), 2);
        check.outOfBoundsBeyond("way from", 11, place -> x.way(place, 0));
        check.outOfBoundsBeyond("way to", 11, place -> x.way(0, place));
        PartingTrains y = Check.of("root 5;");
        check.due("one place", y.way(0, 0), 0);
        check.outOfBoundsBeyond("way in a root", 0, place -> y.way(place, place));
    }
}
