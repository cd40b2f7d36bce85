/** Counts the answers that are not due, and ends a test. */
final class Check {
    private int wrong = 0;
    private int checked = 0;

    /** A land with a fork at the root and one behind it, used by most tests. */
    static final String LAND = "root 20;place 0 10 15;place 1 20 10;place 1 30 10;place 0 5 8;"
            + "fork 1 3 4;fork 0 2 2;portion 2 4;portion 3 5;portion 1 2;portion 4 6;"
            + "late 0 5 10;late 1 10 20;engine 0 20;engine 1 10;engine 0 6;"
            + "want 2 100 600;want 3 50 605;want 4 10 700;";

    static int feedText(PartingTrains x, String text) {
        int held = x.count(5);
        for (int i = 0; i < text.length(); i += 20) {
            int[] words = new int[5];
            for (int k = 0; k < 20; k++) {
                int sign = i + k < text.length() ? text.charAt(i + k) : 0;
                words[k / 4] |= sign << (24 - k % 4 * 8);
            }
            held = x.feed(words[0], words[1], words[2], words[3], words[4]);
        }
        return held;
    }

    static int tell(PartingTrains x, String text) {
        feedText(x, text);
        return x.land(text.length());
    }

    static PartingTrains of(String text) {
        PartingTrains x = new PartingTrains();
        tell(x, text);
        return x;
    }

    static void putAll(PartingTrains x, int train, int... portions) {
        for (int p : portions) {
            x.put(train, p);
        }
    }

    void due(String what, long got, long want) {
        checked++;
        if (got != want) {
            wrong++;
            System.out.println(what + ": answered " + got + ", due is " + want);
        }
    }

    void due(String what, boolean got, boolean want) {
        due(what, got ? 1 : 0, want ? 1 : 0);
    }

    void refused(String what, Class<? extends RuntimeException> kind, Runnable call) {
        checked++;
        String got = "nothing";
        try {
            call.run();
        } catch (RuntimeException e) {
            got = e.getClass().getName();
        }
        if (!got.equals(kind.getName())) {
            wrong++;
            System.out.println(what + ": threw " + got + ", due is " + kind.getName());
        }
    }

    void illegal(String what, Runnable call) {
        refused(what, IllegalArgumentException.class, call);
    }

    void outOfBounds(String what, Runnable call) {
        refused(what, IndexOutOfBoundsException.class, call);
    }

    void noSuch(String what, Runnable call) {
        refused(what, java.util.NoSuchElementException.class, call);
    }

    void end(String name) {
        System.out.println(name + ": " + checked + " checked, " + wrong + " wrong");
        if (wrong > 0) {
            System.exit(1);
        }
    }
}
