import java.lang.reflect.InvocationTargetException;
import java.lang.reflect.Method;
import java.util.Arrays;
import java.util.Comparator;
import java.util.Random;

/** Any arguments in any state: a call answers, or throws what the document names for it, of that very class. */
public final class StormTest {
    private static final int OBJECTS = 500;
    // A land takes up to 28 calls; all rounds together stay under the 512 of an object.
    private static final int ROUNDS = 8;
    private static final int CALLS = 30;
    private static final int[] EDGES = {Integer.MIN_VALUE, Integer.MAX_VALUE, -2, -1, 0, 1, 3, 4, 6, 7, 11, 12, 13, 14, 31, 32,
        60, 61, 63, 64, 100, 127, 128, 200, 240, 500, 1439, 1440, 2879, 2880, 1 << 16, 1 << 30};

    private final Random random;
    private final PartingTrains x = new PartingTrains();

    private StormTest(int seed) {
        random = new Random(seed);
    }

    public static void main(String[] args) throws IllegalAccessException {
        int wrong = 0;
        for (int seed = 0; seed < OBJECTS && wrong < 5; seed++) {
            String fault = new StormTest(seed).play();
            if (fault != null) {
                wrong++;
                System.out.println("seed " + seed + ": " + fault);
            }
        }
        System.out.println("StormTest: " + OBJECTS + " objects, " + wrong + " wrong");
        if (wrong > 0) {
            System.exit(1);
        }
    }

    private String play() throws IllegalAccessException {
        Method[] all = PartingTrains.class.getDeclaredMethods();
        Method[] face = Arrays.stream(all).filter(m -> java.lang.reflect.Modifier.isPublic(m.getModifiers()))
                .sorted(Comparator.comparing(Method::getName)).toArray(Method[]::new);
        // Some storms go over an object without a land.
        boolean lands = random.nextInt(5) > 0;
        for (int round = 0; round < ROUNDS; round++) {
            if (lands && random.nextInt(3) == 0) {
                x.land(0);
                if (Check.tell(x, fullLand()) < 0) {
                    return "a full land is refused";
                }
            }
            for (int i = 0; i < CALLS; i++) {
                String fault = call(face[random.nextInt(face.length)]);
                if (fault != null) {
                    return fault;
                }
            }
        }
        return null;
    }

    private String call(Method method) throws IllegalAccessException {
        Class<?>[] kinds = method.getParameterTypes();
        Object[] arguments = new Object[kinds.length];
        for (int i = 0; i < kinds.length; i++) {
            arguments[i] = kinds[i] == int.class ? (Object) number() : (Object) random.nextBoolean();
        }
        try {
            method.invoke(x, arguments);
            return null;
        } catch (InvocationTargetException e) {
            Class<?> thrown = e.getCause().getClass();
            boolean named = Arrays.asList(method.getExceptionTypes()).contains(thrown);
            return named ? null : method.getName() + Arrays.toString(arguments) + " threw " + thrown.getName();
        }
    }

    private int number() {
        switch (random.nextInt(4)) {
            case 0:
                return EDGES[random.nextInt(EDGES.length)];
            case 1:
                return random.nextInt(13);
            case 2:
                return random.nextInt(1500);
            default:
                return random.nextInt(5);
        }
    }

    /** A land with as many of each kind as may stand, or a few less. */
    private String fullLand() {
        StringBuilder b = new StringBuilder("root 9;");
        int places = 12 - random.nextInt(3);
        int wants = 12 - random.nextInt(5);
        for (int p = 1; p < places; p++) {
            b.append("place ").append(random.nextInt(p)).append(' ').append(1 + random.nextInt(9)).append(" 9;");
        }
        for (int p = 0; p < 7; p++) {
            b.append("portion ").append(1 + random.nextInt(places - 1)).append(" 1;");
        }
        for (int e = 0; e < 8; e++) {
            b.append("engine ").append(random.nextInt(places)).append(" 9;");
        }
        for (int w = 0; w < wants; w++) {
            b.append("want ").append(1 + random.nextInt(places - 1)).append(" 9 9;");
        }
        b.append("fork ").append(random.nextInt(places)).append(" 1 1;");
        return b.toString();
    }
}
