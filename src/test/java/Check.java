import java.util.NoSuchElementException;
import java.util.function.IntConsumer;
import java.util.stream.IntStream;

/** Counts the answers that are not due, and ends a test. */
final class Check {
    private int wrong = 0;
    private int checked = 0;
    private int sentences = 0;
    private int checkedAtSentence = 0;
    private String sentence = "";

    /** A land with a fork at the root and one behind it, used by most tests. */
    static final String LAND = "root 20;place 0 10 15;place 1 20 10;place 1 30 10;place 0 5 8;"
            + "fork 1 3 4;fork 0 2 2;portion 2 4;portion 3 5;portion 1 2;portion 4 6;"
            + "late 0 5 10;late 1 10 20;engine 0 20;engine 1 10;engine 0 6;"
            + "want 2 100 600;want 3 50 605;want 4 10 700;";

    static int feedText(PartingTrains x, String text) {
        int held = x.count(5);
        for (int i = 0; i < text.length(); i += 20) {
            int[] words = new int[5];
            for (int k = 0; k < 20; k++) {
                int sign = i + k < text.length() ? text.charAt(i + k) : 0;
                words[k / 4] |= sign << (24 - k % 4 * 8);
            }
            held = x.feed(words[0], words[1], words[2], words[3], words[4]);
        }
        return held;
    }

    static int tell(PartingTrains x, String text) {
        feedText(x, text);
        return x.land(text.length());
    }

    static PartingTrains of(String text) {
        PartingTrains x = new PartingTrains();
        int places = tell(x, text);
        if (places < 0) {
            throw new IllegalStateException("no land for a test: " + places + " at " + x.fault() + " of " + text);
        }
        return x;
    }

    /** The row of a train, its portions as digits. */
    static String row(PartingTrains x, int train) {
        StringBuilder row = new StringBuilder();
        for (int k = 0; k < 9 && x.row(train, k) != PartingTrains.NONE; k++) {
            row.append(x.row(train, k));
        }
        return row.toString();
    }

    static void putAll(PartingTrains x, int train, int... portions) {
        for (int p : portions) {
            x.put(train, p);
        }
    }

    /** Words of the document that the checks behind this one are for. */
    void sentence(String where, String words) {
        endSentence();
        sentences++;
        checkedAtSentence = checked;
        sentence = where + " \"" + words + "\": ";
    }

    private void endSentence() {
        if (sentences > 0 && checked == checkedAtSentence) {
            wrong++;
            System.out.println(sentence + "nothing is checked");
        }
    }

    private void tellWrong(String what, String got, String want) {
        wrong++;
        System.out.println(sentence + what + ": answered " + got + ", due is " + want);
    }

    void due(String what, long got, long want) {
        checked++;
        if (got != want) {
            tellWrong(what, String.valueOf(got), String.valueOf(want));
        }
    }

    void due(String what, String got, String want) {
        checked++;
        if (!got.equals(want)) {
            tellWrong(what, got, want);
        }
    }

    void due(String what, boolean got, boolean want) {
        due(what, got ? 1 : 0, want ? 1 : 0);
    }

    void refused(String what, Class<? extends RuntimeException> kind, Runnable call) {
        checked++;
        String got = "nothing";
        try {
            call.run();
        } catch (RuntimeException e) {
            got = e.getClass().getName();
        }
        if (!got.equals(kind.getName())) {
            tellWrong(what, got, kind.getName());
        }
    }

    /** A call that takes one number: it refuses those beyond both edges, and far beyond them. */
    void illegalBeyond(String what, int low, int high, IntConsumer call) {
        for (int number : beyond(low, high)) {
            illegal(what + " " + number, () -> call.accept(number));
        }
    }

    void outOfBoundsBeyond(String what, int high, IntConsumer call) {
        for (int number : beyond(0, high)) {
            outOfBounds(what + " " + number, () -> call.accept(number));
        }
    }

    void noSuchBeyond(String what, int high, IntConsumer call) {
        for (int number : beyond(0, high)) {
            noSuch(what + " " + number, () -> call.accept(number));
        }
    }

    private static int[] beyond(int low, int high) {
        // The later ones show a class that looks at some bits of a number alone.
        return IntStream.of(low - 1, high + 1, Integer.MIN_VALUE, Integer.MAX_VALUE, low + 32, low + 64, low + 65536)
                .filter(number -> number < low || number > high).toArray();
    }

    void illegal(String what, Runnable call) {
        refused(what, IllegalArgumentException.class, call);
    }

    void outOfBounds(String what, Runnable call) {
        refused(what, IndexOutOfBoundsException.class, call);
    }

    void noSuch(String what, Runnable call) {
        refused(what, NoSuchElementException.class, call);
    }

    void end(String name) {
        endSentence();
        String of = sentences > 0 ? sentences + " sentences, " : "";
        System.out.println(name + ": " + of + checked + " checked, " + wrong + " wrong");
        if (wrong > 0) {
            System.exit(1);
        }
    }
}
