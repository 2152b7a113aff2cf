import java.io.IOException;
import java.lang.reflect.Method;
import java.lang.reflect.Modifier;
import java.net.URL;
import java.net.URLClassLoader;
import java.nio.file.Files;
import java.nio.file.Path;
import java.util.regex.Matcher;
import java.util.regex.Pattern;
import javax.tools.ToolProvider;

/** What README.md shows of the use of the class: its code is compiled as it stands there, and each line answers what stands behind it. */
public final class ReadmeTests {
    private static final Desk DESK = new Desk("README.md");
    private static final Pattern BLOCK = Pattern.compile("```java\n(.*?)```", Pattern.DOTALL);
    private static final Pattern SHOWN = Pattern.compile("(x\\..*\\)); *// ([^ :]+)(: .*)?");
    private static int lines = 0;
    private static int ran = 0;

    public static void main(String[] args) throws IOException, ReflectiveOperationException {
        String page = Files.readString(Path.of("README.md"));
        StringBuilder members = new StringBuilder();
        StringBuilder course = new StringBuilder();
        Matcher block = BLOCK.matcher(page);
        while (block.find()) {
            String code = block.group(1);
            if (code.startsWith("static ")) {
                members.append(code);
            } else {
                code.lines().forEach(line -> course.append(checked(line)).append('\n'));
            }
        }
        for (Method method : AllIsWell.class.getDeclaredMethods()) {
            if (Modifier.isPublic(method.getModifiers())) {
                DESK.due(method.getName() + "() is shown", (members.toString() + course).contains("x." + method.getName() + "("), true);
            }
        }
        run("public final class Shown {\n"
            + "static final int NONE = AllIsWell.NONE; static final long NOTHING = AllIsWell.NOTHING;\n"
            + members + "public static void main(String[] args) {\n" + course + "}\n}\n");
        DESK.due("lines that were run", lines > 60 && ran == lines, true);
        Desk.close("ReadmeTests");
    }

    /** A line of a call, so that its answer is looked at; any other line as it is. */
    private static String checked(String line) {
        Matcher shown = SHOWN.matcher(line);
        boolean answers = shown.matches();
        DESK.due("'" + line + "' says what it answers", answers, line.startsWith("x."));
        if (!answers) {
            return line;
        }
        lines++;
        String call = shown.group(1);
        return "ReadmeTests.shown(\"" + lines + ": " + call + "\", " + call + ", " + shown.group(2) + ");";
    }

    public static void shown(String call, long got, long want) {
        ran++;
        DESK.due(call, got, want);
    }

    public static void shown(String call, boolean got, boolean want) {
        ran++;
        DESK.due(call, got, want);
    }

    private static void run(String source) throws IOException, ReflectiveOperationException {
        Path room = Files.createDirectories(Path.of("build", "readme"));
        Path file = Files.writeString(room.resolve("Shown.java"), source);
        int code = ToolProvider.getSystemJavaCompiler().run(null, null, null,
            "-cp", System.getProperty("java.class.path"), "-d", room.toString(), file.toString());
        DESK.due("compiling what README.md shows", code, 0);
        if (code == 0) {
            try (URLClassLoader loader = new URLClassLoader(new URL[] {room.toUri().toURL()})) {
                loader.loadClass("Shown").getMethod("main", String[].class).invoke(null, (Object) new String[0]);
            }
        }
    }
}
