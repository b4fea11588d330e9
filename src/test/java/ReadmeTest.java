import java.io.IOException;
import java.lang.reflect.InvocationTargetException;
import java.lang.reflect.Method;
import java.lang.reflect.Modifier;
import java.nio.file.Files;
import java.nio.file.Path;
import java.util.ArrayList;
import java.util.HashMap;
import java.util.List;
import java.util.Map;
import java.util.Set;
import java.util.TreeSet;
import java.util.regex.Matcher;
import java.util.regex.Pattern;
import java.util.stream.Stream;

/** What README.md shows of the use of the class is what the class answers, and it shows every call. */
public final class ReadmeTest {
    private static final Path README = Path.of("README.md"), TESTS = Path.of("src/test/java");
    private static final Pattern JAVA = Pattern.compile("(?ms)^```java\\R(.*?)^```");
    private static final Pattern MADE = Pattern.compile("RentOrBuy (\\w+) = new RentOrBuy\\(\\);(\\s*//.*)?");
    private static final Pattern CALL = Pattern.compile("(\\w+)\\.(\\w+)\\(([-\\d, ]*)\\);\\s*// (-?\\d+|[A-Z]+)(:.*)?");
    private static final Pattern CALL_ROW = Pattern.compile("(?m)^\\| `(\\w+)\\(([\\w, ]*)\\)`");
    private static final Pattern NAME_ROW = Pattern.compile("(?m)^\\| `([A-Z]+)` *\\| *(-\\d+) *\\|");
    private static final Pattern TEST_NAME = Pattern.compile("`(\\w+Test)`");

    private final Map<String, RentOrBuy> objects = new HashMap<>();
    private final Set<String> shown = new TreeSet<>();

    private ReadmeTest() {
    }

    public static void main(String[] args) throws IOException, ReflectiveOperationException {
        String readme = Files.readString(README);
        new ReadmeTest().examples(readme);
        rowsOfCalls(readme);
        rowsOfNames(readme);
        testsAreNamed(readme);
        Due.finish();
    }

    private void examples(String readme) throws ReflectiveOperationException {
        Matcher block = JAVA.matcher(readme);
        while (block.find()) {
            objects.clear();
            for (String line : block.group(1).split("\\R")) {
                if (!line.isBlank()) runLine(line.strip());
            }
        }
        Due.holds("each call is shown, not only " + shown, shown.equals(face().keySet()));
    }

    private void runLine(String line) throws ReflectiveOperationException {
        Matcher made = MADE.matcher(line);
        Matcher call = CALL.matcher(line);
        if (made.matches()) {
            objects.put(made.group(1), new RentOrBuy());
        } else if (call.matches() && objects.containsKey(call.group(1)) && face().containsKey(call.group(2))) {
            shown.add(call.group(2));
            Due.is("README.md: " + line, answer(call), answerTold(call.group(4)));
        } else {
            Due.holds("README.md: '" + line + "' makes an object or tells a call's answer", false);
        }
    }

    private long answer(Matcher call) throws IllegalAccessException, InvocationTargetException {
        List<Object> numbers = new ArrayList<>();
        for (String number : call.group(3).split(",")) {
            if (!number.isBlank()) numbers.add(Integer.valueOf(number.strip()));
        }
        Method method = face().get(call.group(2));
        return ((Number) method.invoke(objects.get(call.group(1)), numbers.toArray())).longValue();
    }

    private static long answerTold(String told) throws ReflectiveOperationException {
        boolean isName = Character.isUpperCase(told.charAt(0));
        return isName ? RentOrBuy.class.getField(told).getInt(null) : Long.parseLong(told);
    }

    private static Map<String, Method> face() {
        Map<String, Method> face = new HashMap<>();
        for (Method method : RentOrBuy.class.getDeclaredMethods()) {
            if (Modifier.isPublic(method.getModifiers())) face.put(method.getName(), method);
        }
        return face;
    }

    private static void rowsOfCalls(String readme) {
        Map<String, Method> missing = face();
        Matcher row = CALL_ROW.matcher(readme);
        while (row.find()) {
            Method method = missing.remove(row.group(1));
            Due.holds("README.md: " + row.group(1) + " is a call, told once", method != null);
            if (method == null) continue;
            int told = row.group(2).isBlank() ? 0 : row.group(2).split(",").length;
            Due.is("README.md: numbers of " + row.group(1), told, method.getParameterCount());
        }
        Due.holds("README.md tells of each call, too of " + missing.keySet(), missing.isEmpty());
    }

    private static void rowsOfNames(String readme) throws ReflectiveOperationException {
        int told = 0;
        Matcher row = NAME_ROW.matcher(readme);
        while (row.find()) {
            told++;
            Due.is("README.md: " + row.group(1), RentOrBuy.class.getField(row.group(1)).getInt(null), Long.parseLong(row.group(2)));
        }
        Due.is("README.md: how many names it tells", told, RentOrBuy.class.getFields().length);
    }

    private static void testsAreNamed(String readme) throws IOException {
        Set<String> named = new TreeSet<>();
        Matcher name = TEST_NAME.matcher(readme);
        while (name.find()) named.add(name.group(1));
        Set<String> there = new TreeSet<>();
        try (Stream<Path> files = Files.list(TESTS)) {
            files.map(file -> file.getFileName().toString())
                    .filter(file -> file.endsWith("Test.java"))
                    .forEach(file -> there.add(file.substring(0, file.length() - ".java".length())));
        }
        Due.holds("README.md names the tests " + there + ", not " + named, named.equals(there));
    }
}
