import java.util.function.LongSupplier;

/** A land that is read behind another one is as on a new object: nothing of the other one is left. */
public final class AfreshTest {
    private static final Check check = new Check();
    private static final String STAR = "root 60;" + "place 0 7 60;".repeat(7) + "portion 1 2;portion 2 3;portion 3 4;portion 4 5;"
            + "portion 5 6;portion 6 7;portion 7 8;fork 0 3 3;" + "engine 0 60;".repeat(8) + "want 7 9 610;want 2 8 890;";
    private static final String LINE = "root 40;place 0 5 40;place 1 6 30;place 2 7 20;place 3 8 10;fork 1 1 2;fork 2 2 1;"
            + "fork 3 1 1;portion 4 5;portion 3 6;portion 2 7;portion 1 8;portion 4 4;"
            + "engine 0 40;engine 0 30;engine 1 30;engine 2 30;engine 3 30;want 4 99 0;want 1 7 1439;want 3 8 600;";
    private static final String PART = "root 60;place 0 10 60;place 1 10 60;place 1 11 60;fork 1 4 5;portion 2 2;portion 3 3;"
            + "engine 0 20;engine 1 20;want 2 50 600;want 3 60 900;";
    // A want that is served, one by a change, one not at all.
    private static final String WANT = "root 9;place 0 1 9;place 1 1 9;place 0 1 9;portion 1 1;engine 0 9;";
    private static final String[] LANDS = {Check.LAND, STAR, LINE, LINE + "late 0 7 11;late 1 19 120;late 4 1 9;", PART,
        WANT + "want 1 5 600;", WANT + "want 2 5 600;", WANT + "want 3 5 600;", "root 5;"};

    private final PartingTrains x = new PartingTrains();
    private final StringBuilder answers = new StringBuilder();

    public static void main(String[] args) {
        check.sentence("Terms 5", "A LAND that is well read ends all TRAINS, JOBS, IMAGES, what is SHUT, WAITS, DAYS,"
                + " MINUTES told.");
        for (int first = 0; first < LANDS.length; first++) {
            for (int second = 0; second < LANDS.length; second++) {
                AfreshTest once = new AfreshTest();
                AfreshTest again = new AfreshTest();
                again.useAll(LANDS[first]);
                check.due(second + " behind " + first, again.useAll(LANDS[second]), once.useAll(LANDS[second]));
            }
        }
        check.end("AfreshTest");
    }

    /** An answer, or the name of what is thrown. */
    private void add(LongSupplier call) {
        try {
            answers.append(call.getAsLong());
        } catch (RuntimeException e) {
            answers.append(e.getClass().getSimpleName());
        }
        answers.append(' ');
    }

    private String useAll(String text) {
        answers.setLength(0);
        check.due("a land " + text, Check.tell(x, text) > 0, true);
        useTrains(x.told(0), x.told(1));
        useEvening(x.told(0), x.told(1));
        useJobs(x.told(0));
        for (int what = 0; what < 6; what++) {
            int k = what;
            add(() -> x.told(k));
            add(() -> x.count(k));
        }
        return answers.toString();
    }

    private void useTrains(int places, int portions) {
        int all = (1 << portions) - 1;
        add(() -> x.orders(all));
        add(() -> x.train(600));
        add(() -> x.train(900));
        add(() -> x.best(-1));
        add(x::group);
        add(x::bound);
        add(() -> x.worth(-1));
        for (int p = 0; p < portions; p++) {
            int portion = p;
            add(() -> x.first(all, portion));
            add(() -> x.arrives(portion));
            add(() -> x.engine(portion));
            add(() -> x.days(portion, 5));
        }
        for (int t = 0; t < 2; t++) {
            int train = t;
            answers.append(Check.row(x, t)).append(' ');
            add(() -> x.error(train));
            add(() -> x.wrong(train, 30));
            add(() -> x.cuts(train, 1));
            add(() -> x.alike(train) ? 1 : 0);
        }
        for (int p = 0; p < places; p++) {
            int place = p;
            add(() -> x.way(place, places - 1));
            add(() -> x.why(0, place));
        }
    }

    private void useEvening(int places, int portions) {
        for (int p = 0; p < portions; p++) {
            int portion = p;
            add(() -> x.evening(portion, 1080 + 9 * portion));
            add(() -> x.reaches(portion, (1 << portions) - 1));
            add(() -> x.spoil(portion, 30, 1));
        }
        for (int p = 0; p < places; p++) {
            int place = p;
            add(() -> x.hold(place, 10));
            add(() -> x.bestWait(place));
        }
        add(x::mean);
        add(x::settle);
        add(() -> x.run(77, 20));
        add(() -> x.harm(0));
        add(() -> x.rows(0));
        for (int p = 0; p < places; p++) {
            int place = p;
            add(() -> x.shut(place, true) ? 1 : 0);
        }
        add(() -> x.best(-1));
        add(x::mean);
    }

    private void useJobs(int places) {
        add(x::image);
        for (int p = 0; p < places; p++) {
            int place = p;
            add(() -> x.job(place, 20 * place, 0, 20 * place + 45));
        }
        add(x::fewest);
        add(x::proof);
        add(() -> x.light(2, 0));
        add(() -> x.light(2, 1));
    }
}
