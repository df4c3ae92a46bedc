import java.lang.reflect.InvocationTargetException;
import java.lang.reflect.Method;
import java.lang.reflect.Modifier;
import java.nio.file.Files;
import java.nio.file.Path;
import java.util.Set;
import java.util.TreeSet;
import java.util.regex.Matcher;
import java.util.regex.Pattern;

/** What README.md shows is so: each row with an answer is called in its order, and every call of the face is shown. */
public final class ReadmeTest {
    private static final Pattern NEW = Pattern.compile("RainWheel wheel = new RainWheel\\(\\);");
    private static final Pattern TELL = Pattern.compile("tell\\(wheel, \"([^\"]*)\"\\);");
    private static final Pattern CALL = Pattern.compile("wheel\\.(\\w+)\\((.*)\\); +// (-?\\d+|true|false|\\w+Exception)\\b.*");
    private static final String ALL_BYTES = "wheel.count(1)";

    private final Check check = new Check();
    private final Set<String> shown = new TreeSet<>();
    private RainWheel wheel = null;

    public static void main(String[] args) throws Exception {
        ReadmeTest test = new ReadmeTest();
        String page = Files.readString(Path.of("README.md"));
        Matcher block = Pattern.compile("(?s)```java\n(.*?)```").matcher(page);
        while (block.find()) {
            if (!block.group(1).startsWith("static")) {
                test.runRows(block.group(1).split("\n"));
            }
        }
        test.everyCallIsShown();
        test.helpersAreThese(page, Files.readString(Path.of("src/test/java/ReadmeTest.java")));
        test.everyTestIsListed(page);
        test.check.end();
    }

    private void runRows(String[] rows) throws ReflectiveOperationException {
        for (String row : rows) {
            Matcher told = TELL.matcher(row);
            Matcher call = CALL.matcher(row);
            if (NEW.matcher(row).matches()) {
                wheel = new RainWheel();
            } else if (told.matches()) {
                tell(wheel, told.group(1));
            } else if (call.matches()) {
                shown.add(call.group(1));
                String got = answer(call.group(1), call.group(2));
                check.holds(row + " (it is " + got + ")", got.equals(call.group(3)));
            } else {
                check.holds("a row that the test knows: " + row, false);
            }
        }
    }

    private String answer(String name, String arguments) throws ReflectiveOperationException {
        String[] words = arguments.isEmpty() ? new String[0] : arguments.split(", ");
        Object[] values = new Object[words.length];
        Class<?>[] types = new Class<?>[words.length];
        for (int k = 0; k < words.length; k++) {
            values[k] = words[k].equals(ALL_BYTES) ? Integer.valueOf(wheel.count(1)) : Integer.decode(words[k]);
            types[k] = int.class;
        }
        try {
            return String.valueOf(RainWheel.class.getMethod(name, types).invoke(wheel, values));
        } catch (InvocationTargetException e) {
            return e.getCause().getClass().getSimpleName();
        }
    }

    private void everyCallIsShown() {
        for (Method method : RainWheel.class.getDeclaredMethods()) {
            if (Modifier.isPublic(method.getModifiers())) {
                check.holds("README.md shows " + method.getName(), shown.contains(method.getName()));
            }
        }
    }

    private void helpersAreThese(String page, String source) {
        String from = source.substring(source.indexOf("\n    static void tell(") + 1);
        String helpers = from.substring(0, from.lastIndexOf("}")).stripTrailing().stripIndent();
        check.holds("README.md shows tell and four as they are here", page.contains("```java\n" + helpers + "\n```"));
    }

    private void everyTestIsListed(String page) throws java.io.IOException {
        try (var files = Files.list(Path.of("src/test/java"))) {
            files.map(file -> file.getFileName().toString().replace(".java", ""))
                .forEach(name -> check.holds("README.md names " + name, page.contains("`" + name + "`")));
        }
    }

    static void tell(RainWheel wheel, String text) {
        for (int at = 0; at < text.length(); at += 20) {
            wheel.feed(four(text, at), four(text, at + 4), four(text, at + 8), four(text, at + 12), four(text, at + 16));
        }
    }

    static int four(String text, int at) {
        int bytes = 0;
        for (int k = at; k < at + 4; k++) {
            bytes = bytes << 8 | (k < text.length() ? text.charAt(k) : ' ');
        }
        return bytes;
    }
}
