import java.io.IOException;
import java.lang.reflect.Constructor;
import java.lang.reflect.Field;
import java.lang.reflect.Method;
import java.lang.reflect.Modifier;
import java.nio.file.Files;
import java.nio.file.Path;
import java.util.Set;
import java.util.TreeSet;
import java.util.regex.Matcher;
import java.util.regex.Pattern;

/** The rules of LANGUAGE.md that can be seen in the source or in the class. */
public final class LanguageTests {
    private static final String FACE = "feed end castle fault has letter tower kept tone mood doubts fire settles cheered sighs "
        + "better placed game rule see moods tells cheer yes change rounds chance undo seed ask image octet on status";
    private static final Desk DESK = new Desk("language");

    public static void main(String[] args) throws IOException {
        String source = Files.readString(Path.of("src/main/java/AllIsWell.java"));
        words(source.replaceAll("(?s)/\\*.*?\\*/", "").replaceAll("//[^\n]*", "").replaceAll("\"[^\"\n]*\"", "\"\""));
        signs(source);
        lengths(source);
        face();
        fields();
        Desk.close("LanguageTests");
    }

    private static void absent(String source, String pattern) {
        Matcher m = Pattern.compile(pattern).matcher(source);
        DESK.due("the source has " + pattern, m.find(), false);
    }

    private static void words(String source) {
        for (String word : "throw throws try catch finally synchronized assert import package var protected volatile transient native".split(" ")) {
            absent(source, "\\b" + word + "\\b");
        }
        absent(source, "->");
        absent(source, "::");
        absent(source, "Exact\\s*\\(");
        absent(source, "static\\s*\\{");
        absent(source, "@");
        absent(source, "\\b(System|Thread|Runtime|Object|Exception)\\b(?!\\.arraycopy)");
        absent(source, "\"\\s*\\+|\\+\\s*\"");
        absent(source, "while\\s*\\(true\\)|for\\s*\\(\\s*;\\s*;");
    }

    private static void signs(String source) {
        for (int k = 0; k < source.length(); k++) {
            if (source.charAt(k) > 126) {
                DESK.due("sign " + k + " of the source", source.charAt(k), 32);
            }
        }
    }

    private static void lengths(String source) {
        String[] lines = source.split("\n");
        Pattern head = Pattern.compile("^( {4}| {8})(?! )(?!.*\\bclass\\b)[^;=]*\\)\\s*\\{$");
        int heads = 0;
        for (int k = 0; k < lines.length; k++) {
            Matcher m = head.matcher(lines[k]);
            if (!m.find()) {
                continue;
            }
            int end = k;
            while (!lines[end].equals(m.group(1) + "}")) {
                end++;
            }
            heads++;
            DESK.due("lines of " + lines[k].trim() + ": " + (end - k + 1), end - k + 1 <= 60, true);
        }
        DESK.due("methods were found", heads > 100, true);
    }

    private static void face() {
        Set<String> due = new TreeSet<>(Set.of(FACE.split(" ")));
        Set<String> open = new TreeSet<>();
        for (Method m : AllIsWell.class.getDeclaredMethods()) {
            boolean hidden = Modifier.isPrivate(m.getModifiers()) || m.isSynthetic();
            if (!hidden) {
                open.add(m.getName());
                DESK.due(m.getName() + " is public", Modifier.isPublic(m.getModifiers()), true);
            }
            DESK.due(m + " bears a public one's name", Modifier.isPrivate(m.getModifiers()) && due.contains(m.getName()), false);
        }
        DESK.due("the face is " + open, open.equals(due), true);
        DESK.due("the class is public and final", Modifier.isPublic(AllIsWell.class.getModifiers())
            && Modifier.isFinal(AllIsWell.class.getModifiers()), true);
        Constructor<?>[] made = AllIsWell.class.getDeclaredConstructors();
        DESK.due("constructors", made.length, 1);
        DESK.due("NONE", AllIsWell.NONE, -1);
        DESK.due("NOTHING", AllIsWell.NOTHING, -1000000000000000L);
        DESK.due("classes", AllIsWell.class.getDeclaredClasses().length <= 11, true);
    }

    private static void fields() {
        inspect(AllIsWell.class);
        for (Class<?> c : AllIsWell.class.getDeclaredClasses()) {
            DESK.due(c + " is static", Modifier.isStatic(c.getModifiers()), true);
            DESK.due(c + " is private", Modifier.isPrivate(c.getModifiers()), true);
            inspect(c);
        }
    }

    private static void inspect(Class<?> c) {
        int own = 0;
        for (Field f : c.getDeclaredFields()) {
            if (Modifier.isStatic(f.getModifiers())) {
                DESK.due(f + " is final", Modifier.isFinal(f.getModifiers()), true);
            } else {
                own++;
            }
        }
        DESK.due("fields of " + c + ": " + own, own <= 20, true);
        for (Method m : c.getDeclaredMethods()) {
            DESK.due("parameters of " + m, m.getParameterCount() <= 7, true);
        }
        for (Field f : c.getDeclaredFields()) {
            if (c == AllIsWell.class && !f.getName().equals("NONE") && !f.getName().equals("NOTHING")) {
                DESK.due(f + " is private", Modifier.isPrivate(f.getModifiers()), true);
            }
        }
    }
}
