import java.lang.reflect.Constructor;
import java.lang.reflect.Field;
import java.lang.reflect.Method;
import java.lang.reflect.Modifier;
import java.nio.file.Files;
import java.nio.file.Path;
import java.util.ArrayList;
import java.util.Arrays;
import java.util.List;
import java.util.Set;
import java.util.TreeSet;
import java.util.regex.Matcher;
import java.util.regex.Pattern;

/** The public face is the document's, no more and no less, and the file keeps to what LANGUAGE.md lets a test see. */
public final class FaceTest {
    private static final String[] FACE = {
        "int ahead(int)", "int ask()", "int await(int,int)", "int bears(int)", "int book(int)", "int chain(int)", "int count(int)",
        "int crooked(int)", "int cross(int,int)", "int deed(int,int)", "int drive(int)", "int drop(int)", "int easiest(int)",
        "int evening(int,int)", "int evenings(int,int,int)", "int fault()", "int feed(int,int,int,int,int)", "int first(int)",
        "int half(int,int)", "int hand(int,int)", "int idle(int)", "int image()", "int law(int)", "int likeliest()", "int line(int,int)",
        "int plan(int)", "int pumps(int)", "int push(int,int,int,int)", "int restore()", "int road(int)", "int share(int)",
        "int sinks(int,int,int)", "int slack(int)", "int soonest(int)", "int span()", "int status(int)", "int strong(int)",
        "int swap(int,int)", "int told(int)", "int umbrella()", "int under(int,int,int)", "int undo()", "int urgent()", "int wet(int)",
        "int would(int,int,int,int,int,int)", "long odds(int,int)", "long tries(int,int,int,int)", "long waits(int,int,int,int)",
        "boolean rains(int)"};
    private static final String SOURCE = "src/main/java/RainWheel.java";
    private final Check check = new Check();

    public static void main(String[] args) throws Exception {
        FaceTest test = new FaceTest();
        test.face();
        test.insides();
        test.source(Files.readString(Path.of(SOURCE)));
        test.check.end();
    }

    private void face() {
        Class<?> wheel = RainWheel.class;
        check.holds("public and final", Modifier.isPublic(wheel.getModifiers()) && Modifier.isFinal(wheel.getModifiers()));
        Set<String> got = new TreeSet<>();
        for (Method method : wheel.getDeclaredMethods()) {
            if (Modifier.isPublic(method.getModifiers())) {
                List<String> types = new ArrayList<>();
                for (Class<?> type : method.getParameterTypes()) {
                    types.add(type.getName());
                }
                got.add(method.getReturnType().getName() + " " + method.getName() + "(" + String.join(",", types) + ")");
                check.holds("no static " + method, !Modifier.isStatic(method.getModifiers()));
            } else {
                check.holds("private " + method, Modifier.isPrivate(method.getModifiers()) || method.isSynthetic());
            }
        }
        check.holds("methods " + got, got.equals(new TreeSet<>(Arrays.asList(FACE))));
        for (Field field : wheel.getDeclaredFields()) {
            check.holds("private " + field, Modifier.isPrivate(field.getModifiers()) || field.getName().equals("NONE"));
            check.holds("no static state " + field, !Modifier.isStatic(field.getModifiers()) || Modifier.isFinal(field.getModifiers()));
        }
        Constructor<?>[] constructors = wheel.getDeclaredConstructors();
        check.holds("one constructor", constructors.length == 1 && Modifier.isPublic(constructors[0].getModifiers())
            && constructors[0].getParameterCount() == 0);
    }

    private void insides() {
        Set<String> names = new TreeSet<>();
        for (String face : FACE) {
            names.add(face.substring(face.indexOf(' ') + 1, face.indexOf('(')));
        }
        List<Class<?>> all = new ArrayList<>(Arrays.asList(RainWheel.class.getDeclaredClasses()));
        check.holds("at most twelve classes", all.size() + 1 <= 12);
        for (Class<?> inside : all) {
            check.holds("static " + inside, Modifier.isStatic(inside.getModifiers()) && !Modifier.isPublic(inside.getModifiers()));
            int fields = 0;
            for (Field field : inside.getDeclaredFields()) {
                fields += Modifier.isStatic(field.getModifiers()) ? 0 : 1;
                check.holds("no static state " + field, !Modifier.isStatic(field.getModifiers()) || Modifier.isFinal(field.getModifiers()));
            }
            check.holds("few fields in " + inside, fields <= 20);
            for (Method method : inside.getDeclaredMethods()) {
                check.holds("not named as the face: " + method, !names.contains(method.getName()));
                check.holds("seven parameters: " + method, method.getParameterCount() <= 7);
            }
        }
        for (Method method : RainWheel.class.getDeclaredMethods()) {
            check.holds("private with a name of the face: " + method,
                !Modifier.isPrivate(method.getModifiers()) || !names.contains(method.getName()));
        }
    }

    private void source(String text) {
        String code = text.replaceAll("(?s)/\\*.*?\\*/", "").replaceAll("//.*", "");
        String[] outside = {"->", "::", "\\btry\\b", "\\bcatch\\b", "\\bfinally\\b", "\\bsynchronized\\b", "\\bassert\\b", "\\bvar\\b",
            "\\bSystem\\.(?!arraycopy\\b)", "\\bThread\\b", "\\bRandom\\b", "Exact\\(", "\\bpackage\\b", "\\bprotected\\b", "\\bstatic \\{",
            "\\bwhile \\(true\\)", "for \\(;;\\)", "\\bString\\[\\]", "\\bordinal\\(", "\\bhashCode\\b", "\\btoString\\b"};
        for (String pattern : outside) {
            check.holds("no " + pattern, !Pattern.compile(pattern).matcher(code).find());
        }
        Matcher imports = Pattern.compile("import ([^;]+);").matcher(code);
        while (imports.find()) {
            check.holds("import " + imports.group(1), List.of("java.util.Arrays", "java.util.NoSuchElementException").contains(imports.group(1)));
        }
        Matcher thrown = Pattern.compile("throw ([^;]*);").matcher(code);
        while (thrown.find()) {
            check.holds("throw " + thrown.group(1), thrown.group(1).matches("new \\w+Exception\\(\"[^\"]*\"\\)"));
        }
        for (char c : text.toCharArray()) {
            if (c > 126) {
                check.holds("a sign above 126 in the source", false);
            }
        }
        methods(code.split("\n"));
    }

    /** Methods stay short: from a line that opens one to the line that closes it, by their indentation. */
    private void methods(String[] lines) {
        for (int k = 0; k < lines.length; k++) {
            Matcher opens = Pattern.compile("^( {4}| {8})(?!static final class|private static final class|public final class)[a-z].*\\).*\\{$").matcher(lines[k]);
            if (opens.find() && !lines[k].trim().startsWith("for") && !lines[k].trim().startsWith("if")) {
                int end = k;
                while (end < lines.length && !lines[end].equals(opens.group(1) + "}")) {
                    end++;
                }
                check.holds("short: " + lines[k].trim(), end - k < 60);
            }
        }
    }
}
