import java.io.IOException;
import java.lang.reflect.Method;
import java.lang.reflect.Modifier;
import java.nio.file.Files;
import java.nio.file.Path;
import java.util.List;
import java.util.Set;
import java.util.TreeSet;
import java.util.regex.Matcher;
import java.util.regex.Pattern;

/** README.md names each method of the class, and its examples answer what they say. */
public final class ReadmeTest {
    private static final Pattern NEW_OBJECT =
        Pattern.compile("ClipRaster raster = new ClipRaster\\(\\);");
    private static final Pattern CALL =
        Pattern.compile("raster\\.(\\w+)\\(([-0-9, ]*)\\); +// (-?[0-9]+)(:.*)?");
    private static final Pattern ENTRY = Pattern.compile("- `(\\w+)\\(([a-z, ]*)\\)` .*");

    private final Check check = new Check();
    private final Set<String> called = new TreeSet<>();
    private final Set<String> told = new TreeSet<>();
    private ClipRaster raster;

    /** Run in the project's directory, as .ci/run does. */
    public static void main(String[] args) throws IOException, ReflectiveOperationException {
        ReadmeTest test = new ReadmeTest();
        test.read(Files.readAllLines(Path.of("README.md")));
        test.nameEveryMethod();
        test.check.finish();
    }

    private void read(List<String> lines) throws ReflectiveOperationException {
        boolean example = false;
        for (String line : lines) {
            Matcher entry = ENTRY.matcher(line);
            if (line.startsWith("```")) {
                example = line.equals("```java");
            } else if (example) {
                follow(line);
            } else if (entry.matches()) {
                told.add(entry.group(1) + "/" + arguments(entry.group(2)).length);
            }
        }
    }

    private void follow(String line) throws ReflectiveOperationException {
        Matcher call = CALL.matcher(line);
        if (NEW_OBJECT.matcher(line).matches()) {
            raster = new ClipRaster();
        } else if (call.matches()) {
            String[] arguments = arguments(call.group(2));
            int got = answer(call.group(1), arguments);
            check.due(line, got, Integer.parseInt(call.group(3)));
            called.add(call.group(1) + "/" + arguments.length);
        } else {
            check.fault("not a call with its answer: " + line);
        }
    }

    private static String[] arguments(String list) {
        return list.isEmpty() ? new String[0] : list.split(", ");
    }

    private int answer(String name, String[] arguments) throws ReflectiveOperationException {
        Class<?>[] types = new Class<?>[arguments.length];
        Object[] numbers = new Object[arguments.length];
        for (int n = 0; n < arguments.length; n++) {
            types[n] = int.class;
            numbers[n] = Integer.valueOf(arguments[n]);
        }
        return (Integer) ClipRaster.class.getMethod(name, types).invoke(raster, numbers);
    }

    private void nameEveryMethod() {
        Set<String> face = new TreeSet<>();
        for (Method method : ClipRaster.class.getDeclaredMethods()) {
            if (Modifier.isPublic(method.getModifiers())) {
                face.add(method.getName() + "/" + method.getParameterCount());
            }
        }
        check.due("the methods " + told + " are told", told.equals(face) ? 1 : 0, 1);
        check.due("the methods " + called + " are in the examples", called.equals(face) ? 1 : 0, 1);
    }
}
