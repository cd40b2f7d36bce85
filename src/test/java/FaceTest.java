import java.io.IOException;
import java.lang.reflect.Constructor;
import java.lang.reflect.Field;
import java.lang.reflect.Member;
import java.lang.reflect.Method;
import java.lang.reflect.Modifier;
import java.nio.file.Files;
import java.nio.file.Path;
import java.util.ArrayList;
import java.util.Arrays;
import java.util.List;
import java.util.Set;
import java.util.TreeSet;
import java.util.regex.Matcher;
import java.util.regex.Pattern;
import java.util.stream.Collectors;

/** The face of the class is that of the document, with its exceptions in their order, and nothing beside it. */
public final class FaceTest {
    private static final Check check = new Check();
    private static final Path DOCUMENT = Path.of("../shared/DOC.md");
    private static final Pattern METHOD = Pattern.compile("public (\\w+) (\\w+)\\(([^)]*)\\)(?: throws ([\\w, ]+))?;");

    public static void main(String[] args) throws IOException {
        String document = Files.readString(DOCUMENT);
        int from = document.indexOf("```java");
        String face = document.substring(from, document.indexOf("```\n", from + 1));
        members(face);
        kinds();
        names();
        promises(document);
        check.end("FaceTest");
    }

    private static void members(String face) {
        check.sentence("The public face", "public final class PartingTrains");
        Set<String> due = new TreeSet<>(Set.of("int NONE", "PartingTrains()"));
        Matcher m = METHOD.matcher(face);
        while (m.find()) {
            String arguments = m.group(3).replaceAll("(\\w+) \\w+", "$1");
            due.add(signature(m.group(1), m.group(2), arguments, m.group(4) == null ? "" : m.group(4)));
        }
        check.due("members that the document tells", due.size(), 46);
        Set<String> got = new TreeSet<>();
        for (Field f : shown(PartingTrains.class.getDeclaredFields())) {
            got.add(f.getType().getName() + " " + f.getName());
        }
        for (Constructor<?> c : shown(PartingTrains.class.getDeclaredConstructors())) {
            got.add(c.getName() + "(" + namesOf(c.getParameterTypes()) + ")");
        }
        for (Method f : shown(PartingTrains.class.getDeclaredMethods())) {
            got.add(signature(f.getReturnType().getName(), f.getName(), namesOf(f.getParameterTypes()),
                    namesOf(f.getExceptionTypes())));
        }
        check.due("members", String.join("\n", got), String.join("\n", due));
        check.due("NONE", PartingTrains.NONE, -1);
    }

    private static String signature(String kind, String name, String arguments, String exceptions) {
        return kind + " " + name + "(" + arguments + ") throws " + exceptions;
    }

    private static String namesOf(Class<?>[] classes) {
        return Arrays.stream(classes).map(Class::getSimpleName).collect(Collectors.joining(", "));
    }

    private static <M extends Member> List<M> shown(M[] all) {
        List<M> shown = new ArrayList<>();
        for (M m : all) {
            if (!Modifier.isPrivate(m.getModifiers()) && !m.isSynthetic()) {
                shown.add(m);
            }
        }
        return shown;
    }

    private static void kinds() {
        check.sentence("LANGUAGE 1", "public and final, with the public constructor, methods and constants of the document");
        int open = Modifier.PUBLIC | Modifier.FINAL;
        check.due("the class", PartingTrains.class.getModifiers(), open);
        for (Method m : shown(PartingTrains.class.getDeclaredMethods())) {
            check.due(m.getName(), Modifier.toString(m.getModifiers()), "public");
        }
        for (Field f : shown(PartingTrains.class.getDeclaredFields())) {
            check.due(f.getName(), Modifier.toString(f.getModifiers()), "public static final");
        }
        for (Class<?> inside : PartingTrains.class.getDeclaredClasses()) {
            int seen = inside.getModifiers() & (Modifier.PUBLIC | Modifier.PROTECTED | Modifier.STATIC);
            check.due(inside.getName(), seen, Modifier.STATIC);
        }
    }

    private static void names() {
        check.sentence("LANGUAGE 1", "No private method bears the name of a public one.");
        Set<String> face = new TreeSet<>();
        for (Method m : shown(PartingTrains.class.getDeclaredMethods())) {
            face.add(m.getName());
        }
        check.due("names", face.size(), 44);
        for (Method m : PartingTrains.class.getDeclaredMethods()) {
            if (Modifier.isPrivate(m.getModifiers())) {
                check.due(m.getName(), face.contains(m.getName()), false);
            }
        }
    }

    private static void promises(String document) {
        check.sentence("Promise 1 to 45", "each promise tells one constructor or method of the face");
        Matcher m = Pattern.compile("## Promise (\\d+): ([\\w ]+)\n").matcher(document);
        int many = 0;
        while (m.find()) {
            many++;
            check.due("number of " + m.group(2), Integer.parseInt(m.group(1)), many);
            String name = m.group(2);
            boolean there = many == 1 || Arrays.stream(PartingTrains.class.getMethods()).anyMatch(f -> f.getName().equals(name));
            check.due(name, there, true);
        }
        check.due("promises", many, 45);
    }
}
