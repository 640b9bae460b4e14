import java.io.StringWriter;
import java.lang.reflect.Method;
import java.lang.reflect.Modifier;
import java.net.URL;
import java.net.URLClassLoader;
import java.nio.file.Files;
import java.nio.file.Path;
import java.util.ArrayList;
import java.util.List;
import java.util.regex.Matcher;
import java.util.regex.Pattern;
import java.util.stream.Stream;
import javax.tools.JavaCompiler;
import javax.tools.StandardJavaFileManager;
import javax.tools.ToolProvider;

/** The code of README.md, compiled as it stands: its calls answer what is told beside them, and all of the face is told of. */
public final class ReadmeHolds {
    private static final Pattern BLOCK = Pattern.compile("```java\n(.*?)```", Pattern.DOTALL);
    private static final Pattern CALL = Pattern.compile("(int (\\w+) = )?(x\\.\\w+\\(.*?\\)); +// (-?\\d+|true|false)\\b.*");
    private static int wrong = 0;
    private static int held = 0;

    private ReadmeHolds() {
    }

    public static void main(String[] args) throws Exception {
        String readme = Files.readString(Path.of("README.md"));
        tellsOfAllCalls(readme);
        Path out = Files.createTempDirectory("readme");
        try {
            run(source(readme), out);
        } finally {
            remove(out);
        }
        if (held == 0) {
            fail("no answer is told");
        }
        System.out.println("README.md: " + held + " answers told, " + wrong + " wrong");
        System.exit(wrong > 0 ? 1 : 0);
    }

    private static void fail(String what) {
        wrong++;
        System.out.println("README.md: " + what);
    }

    private static void tellsOfAllCalls(String readme) {
        for (Method m : OneLetterWrong.class.getDeclaredMethods()) {
            boolean open = Modifier.isPublic(m.getModifiers());
            if (open && !readme.contains("`" + m.getName() + "`")) {
                fail("doesn't tell of " + m.getName());
            }
        }
    }

    /** Blocks that begin with a method stand beside the others, whose calls are asked for their answers. */
    private static String source(String readme) {
        StringBuilder methods = new StringBuilder();
        StringBuilder calls = new StringBuilder();
        Matcher m = BLOCK.matcher(readme);
        while (m.find()) {
            if (m.group(1).startsWith("static ")) {
                methods.append(m.group(1));
            } else {
                m.group(1).lines().forEach(line -> calls.append(asked(line)).append('\n'));
            }
        }
        return "public final class ReadmeCode {\n" + methods + "public static void main(String[] args) {\n" + calls + "}\n}\n";
    }

    private static String asked(String line) {
        Matcher m = CALL.matcher(line);
        if (!m.matches()) {
            return line;
        }
        String call = "\"" + m.group(3) + "\", ";
        return m.group(1) == null
                ? "ReadmeHolds.due(" + call + m.group(3) + ", " + m.group(4) + ");"
                : m.group(1) + m.group(3) + "; ReadmeHolds.due(" + call + m.group(2) + ", " + m.group(4) + ");";
    }

    private static void run(String source, Path out) throws Exception {
        Path file = out.resolve("ReadmeCode.java");
        Files.writeString(file, source);
        JavaCompiler compiler = ToolProvider.getSystemJavaCompiler();
        StringWriter told = new StringWriter();
        boolean done;
        try (StandardJavaFileManager files = compiler.getStandardFileManager(null, null, null)) {
            List<String> options = List.of("-nowarn", "-d", out.toString(), "-cp", System.getProperty("java.class.path"));
            done = compiler.getTask(told, files, null, options, null, files.getJavaFileObjects(file)).call();
        }
        if (!done) {
            fail("its code can't be compiled: " + told);
            return;
        }
        try (URLClassLoader loader = new URLClassLoader(new URL[] {out.toUri().toURL()}, ReadmeHolds.class.getClassLoader())) {
            loader.loadClass("ReadmeCode").getMethod("main", String[].class).invoke(null, (Object) new String[0]);
        }
    }

    public static void due(String call, Object got, Object want) {
        held++;
        if (!got.toString().equals(want.toString())) {
            fail(call + " answers " + got + ", told is " + want);
        }
    }

    private static void remove(Path out) throws Exception {
        List<Path> all = new ArrayList<>();
        try (Stream<Path> found = Files.walk(out)) {
            found.forEach(all::add);
        }
        for (int i = all.size() - 1; i >= 0; i--) {
            Files.delete(all.get(i));
        }
    }
}
