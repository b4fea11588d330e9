import java.io.IOException;
import java.lang.reflect.Constructor;
import java.lang.reflect.Field;
import java.lang.reflect.Method;
import java.lang.reflect.Modifier;
import java.nio.file.Files;
import java.nio.file.Path;
import java.util.Set;
import java.util.TreeSet;
import java.util.regex.Matcher;
import java.util.regex.Pattern;

/** The public face, and those rules of LANGUAGE.md that can be read off the text or the class file. */
public final class LanguageTest {
    private static final Path SOURCE = Path.of("src/main/java/RentOrBuy.java");
    private static final String FACE = String.join("\n",
            "int at(int)", "int bound(int)", "int cost(int,int)", "int count(int)", "int drop()",
            "int ends(int)", "int guess(int,int)", "int known(int)", "int list(int)",
            "int offer(int,int,int,int,int)", "int ratio(int,int,int)", "int rent(int)", "int request(int)",
            "int serve(int)", "int share(int,int,int)", "int sure()", "int trust(int,int,int,int)",
            "long mean(int,int)", "long trace()");
    /** Rules 1, 2, 4, 5, 6, 13: what may not stand anywhere in the text. */
    private static final String OUTSIDE = "\\b(throw|throws|try|catch|finally|synchronized|assert|package|hashCode"
            + "|random|Random|Thread|\\w*Exact|\\w*Exception)\\b|::|static\\s*\\{|System\\.(?!arraycopy\\b)";
    private static final Pattern LAMBDA = Pattern.compile("(?m)^(?!\\s*(case\\b.*|default\\s*)->).*->.*$");
    private static final Pattern IMPORT = Pattern.compile("import\\s+(?!java\\.util\\.(ArrayList|List|Arrays|Iterator);)[^;]*;");
    private static final int MOST_LINES = 66;

    private LanguageTest() {
    }

    public static void main(String[] args) throws IOException {
        face();
        Set<String> publicNames = new TreeSet<>();
        for (Method m : RentOrBuy.class.getDeclaredMethods()) {
            if (Modifier.isPublic(m.getModifiers())) publicNames.add(m.getName());
        }
        checkClass(RentOrBuy.class, publicNames);
        Class<?>[] inside = RentOrBuy.class.getDeclaredClasses();
        Due.holds("at most twelve classes", inside.length < 12);
        for (Class<?> c : inside) {
            Due.holds(c + " is static", Modifier.isStatic(c.getModifiers()));
            Due.holds(c + " is private or package-visible", (c.getModifiers() & (Modifier.PUBLIC | Modifier.PROTECTED)) == 0);
            checkClass(c, publicNames);
        }
        text();
        Due.finish();
    }

    private static void face() {
        Class<?> c = RentOrBuy.class;
        Due.holds("public and final", Modifier.isPublic(c.getModifiers()) && Modifier.isFinal(c.getModifiers()));
        Set<String> methods = new TreeSet<>();
        for (Method m : c.getDeclaredMethods()) {
            if (m.isSynthetic() || Modifier.isPrivate(m.getModifiers())) continue;
            Due.holds(m + " is public", Modifier.isPublic(m.getModifiers()) && !Modifier.isStatic(m.getModifiers()));
            StringBuilder parameters = new StringBuilder();
            for (Class<?> p : m.getParameterTypes()) parameters.append(parameters.length() == 0 ? "" : ",").append(p);
            methods.add(m.getReturnType() + " " + m.getName() + "(" + parameters + ")");
        }
        Due.holds("the methods are those of the document: " + methods, String.join("\n", methods).equals(FACE));
        Set<String> constants = new TreeSet<>();
        for (Field f : c.getDeclaredFields()) {
            if (!Modifier.isPrivate(f.getModifiers())) constants.add(Modifier.toString(f.getModifiers()) + " " + f.getName());
        }
        Due.holds("the constants are those of the document: " + constants, constants.toString().equals(
                "[public static final BAD, public static final FULL, public static final NONE, public static final STATE]"));
        Constructor<?>[] made = c.getDeclaredConstructors();
        Due.holds("one public constructor", made.length == 1 && made[0].getParameterCount() == 0
                && Modifier.isPublic(made[0].getModifiers()));
    }

    private static void checkClass(Class<?> c, Set<String> publicNames) {
        int fields = 0;
        for (Field f : c.getDeclaredFields()) {
            if (!Modifier.isStatic(f.getModifiers())) fields++;
            else Due.holds(f + " is final", Modifier.isFinal(f.getModifiers()));
        }
        Due.holds(c + " has at most twenty fields", fields <= 20);
        for (Method m : c.getDeclaredMethods()) {
            Due.holds(m + " has at most seven parameters", m.getParameterCount() <= 7);
            Due.holds(m + " bears no public name",
                    !Modifier.isPrivate(m.getModifiers()) || !publicNames.contains(m.getName()));
        }
    }

    private static void text() throws IOException {
        String text = Files.readString(SOURCE).replaceAll("(?s)/\\*.*?\\*/", "").replaceAll("//[^\n]*", "");
        for (Pattern outside : new Pattern[] {Pattern.compile(OUTSIDE), LAMBDA, IMPORT}) {
            Matcher m = outside.matcher(text);
            while (m.find()) {
                Due.holds("no " + m.group() + " in the program", false);
            }
        }
        lengths(text.split("\n"));
    }

    /** Methods stand at depth 1 in the class itself, at depth 2 in the classes inside. */
    private static void lengths(String[] lines) {
        int depth = 0;
        int[] begun = new int[3];
        for (int i = 0; i < lines.length; i++) {
            String line = lines[i];
            for (char c : line.toCharArray()) {
                if (c == '{') {
                    if (depth < begun.length) begun[depth] = i;
                    depth++;
                } else if (c == '}') {
                    depth--;
                    if (depth < 1 || depth >= begun.length) continue;
                    String head = lines[begun[depth]];
                    Due.holds("short: " + head.strip(), !head.contains("(") || i - begun[depth] < MOST_LINES);
                }
            }
        }
        Due.is("the depth at the end of the text", depth, 0);
    }
}
