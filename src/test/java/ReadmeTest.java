import java.io.IOException;
import java.lang.reflect.InvocationTargetException;
import java.lang.reflect.Method;
import java.nio.file.Files;
import java.nio.file.Path;
import java.util.Set;
import java.util.TreeSet;
import java.util.regex.Matcher;
import java.util.regex.Pattern;

/** The calls that README.md shows answer what it writes behind them, and it names every call of the face. */
public final class ReadmeTest {
    private static final Check check = new Check();
    private static final Pattern CALL = Pattern.compile("x\\.(\\w+)\\(([^)]*)\\); +// (\\S+)");
    private static final Pattern LAND = Pattern.compile("```text\n(.*?)```", Pattern.DOTALL);

    public static void main(String[] args) throws IOException, ReflectiveOperationException {
        String page = Files.readString(Path.of("README.md"));
        Matcher land = LAND.matcher(page);
        check.due("a land is shown", land.find(), true);
        PartingTrains x = new PartingTrains();
        int calls = playAll(x, page.substring(0, land.start()));
        check.due("the land", Check.tell(x, land.group(1).replace("\n", "")), 5);
        calls += playAll(x, page.substring(land.end()));
        check.due("calls", calls, 28);
        allAreNamed(page);
        check.end("ReadmeTest");
    }

    private static int playAll(PartingTrains x, String part) throws ReflectiveOperationException {
        int calls = 0;
        Matcher m = CALL.matcher(part);
        while (m.find()) {
            calls++;
            check.due(m.group(1) + "(" + m.group(2) + ")", play(x, m.group(1), m.group(2)), m.group(3));
        }
        return calls;
    }

    private static String play(PartingTrains x, String name, String written) throws ReflectiveOperationException {
        String[] parts = written.isEmpty() ? new String[0] : written.split(", ");
        Object[] arguments = new Object[parts.length];
        for (int i = 0; i < parts.length; i++) {
            arguments[i] = Integer.decode(parts[i]);
        }
        for (Method method : PartingTrains.class.getMethods()) {
            if (method.getName().equals(name) && method.getDeclaringClass() == PartingTrains.class) {
                try {
                    return String.valueOf(method.invoke(x, arguments));
                } catch (InvocationTargetException e) {
                    return e.getCause().getClass().getSimpleName();
                }
            }
        }
        return "no such call";
    }

    private static void allAreNamed(String page) {
        Set<String> missing = new TreeSet<>();
        for (Method method : PartingTrains.class.getDeclaredMethods()) {
            boolean shown = java.lang.reflect.Modifier.isPublic(method.getModifiers());
            if (shown && !page.contains("`" + method.getName() + "`")) {
                missing.add(method.getName());
            }
        }
        check.due("calls that are not named", String.join(" ", missing), "");
    }
}
