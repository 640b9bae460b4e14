import java.io.ByteArrayOutputStream;
import java.io.IOException;
import java.io.OutputStream;
import java.lang.reflect.Method;
import java.net.URI;
import java.nio.charset.StandardCharsets;
import java.nio.file.Files;
import java.nio.file.Path;
import java.util.ArrayList;
import java.util.HashMap;
import java.util.HashSet;
import java.util.List;
import java.util.Map;
import java.util.Set;
import java.util.stream.Stream;
import javax.tools.FileObject;
import javax.tools.ForwardingJavaFileManager;
import javax.tools.JavaCompiler;
import javax.tools.JavaFileManager;
import javax.tools.JavaFileObject;
import javax.tools.SimpleJavaFileObject;
import javax.tools.ToolProvider;

/**
 * A test of the tests of edges: the class is broken against one sentence after the other, as src/test/breaks tells,
 * and the tests that say the sentence have to fail then. A break whose piece of the class isn't there any more is
 * told, but isn't wrong: the class may be written in another way.
 */
public final class EdgesAreSharp {
    private static final Path SOURCE = Path.of("src/main/java/OneLetterWrong.java");
    private static final Path BREAKS = Path.of("src/test/breaks");
    private static final long MOST_MILLIS = 60000;

    /** One piece of a break: behind a line (null: anywhere) a piece of the source, and what comes in its place. */
    private record Piece(String behind, String from, String into) {
    }

    private record Break(String at, List<Piece> pieces, List<String> tests) {
    }

    private static final Map<String, Class<?>> ALL = new HashMap<>();
    private static int wrong = 0;
    private static int stale = 0;

    private EdgesAreSharp() {
    }

    public static void main(String[] args) throws Exception {
        for (Class<?> c : EdgesCoverTheDocument.TESTS) {
            for (Method test : Edges.of(c)) {
                ALL.put(test.getName(), c);
            }
        }
        String source = Files.readString(SOURCE, StandardCharsets.ISO_8859_1);
        List<Break> breaks = breaks();
        breaks.parallelStream().forEach(one -> tryOut(one, source));
        Set<String> left = new HashSet<>(ALL.keySet());
        breaks.forEach(one -> left.removeAll(one.tests()));
        left.stream().sorted().forEach(test -> fail("no break is told for " + test));
        System.out.println(breaks.size() + " breaks, " + stale + " of them don't fit the class any more, " + wrong + " wrong");
        System.exit(wrong > 0 ? 1 : 0);
    }

    private static synchronized void fail(String what) {
        wrong++;
        System.out.println(what);
    }

    private static synchronized void outdated(Break one) {
        stale++;
        System.out.println(one.at() + ": its piece isn't in the class any more, or more than once");
    }

    private static List<Break> breaks() throws IOException {
        List<Path> files;
        try (Stream<Path> found = Files.list(BREAKS)) {
            files = found.sorted().toList();
        }
        List<Break> all = new ArrayList<>();
        for (Path file : files) {
            read(file, all);
        }
        return all;
    }

    private static void read(Path file, List<Break> all) throws IOException {
        List<String> lines = new ArrayList<>(Files.readAllLines(file));
        String behind = null;
        String from = null;
        List<Piece> pieces = new ArrayList<>();
        for (int i = 0; i < lines.size(); i++) {
            String line = lines.get(i).trim();
            String rest = line.length() > 2 ? line.substring(2) : "";
            if (line.startsWith("@ ")) {
                behind = rest;
            } else if (line.startsWith("- ")) {
                from = rest;
            } else if (line.startsWith("+ ")) {
                pieces.add(new Piece(behind, from, rest));
            } else if (line.startsWith("! ")) {
                all.add(new Break(file.getFileName() + ":" + (i + 1), pieces, List.of(rest.split(" "))));
                pieces = new ArrayList<>();
                behind = null;
            }
        }
    }

    private static void tryOut(Break one, String source) {
        String broken = broken(one, source);
        if (broken == null) {
            outdated(one);
            return;
        }
        Map<String, byte[]> classes = compiled(broken);
        if (classes.isEmpty()) {
            fail(one.at() + ": the broken class can't be compiled");
            return;
        }
        for (String test : one.tests()) {
            Class<?> home = ALL.get(test);
            if (home == null) {
                fail(one.at() + ": there is no test " + test);
            } else if (!fails(classes, home.getName(), test)) {
                fail(one.at() + ": " + test + " doesn't see it");
            }
        }
    }

    /** The source with all pieces of a break put in, null if one doesn't fit. */
    private static String broken(Break one, String source) {
        String now = source;
        for (Piece piece : one.pieces()) {
            int start = piece.behind() == null ? 0 : now.indexOf(piece.behind());
            int at = start < 0 ? -1 : now.indexOf(piece.from(), start);
            boolean twice = piece.behind() == null ? now.indexOf(piece.from(), at + 1) >= 0
                    : now.indexOf(piece.behind(), start + 1) >= 0;
            if (at < 0 || twice) {
                return null;
            }
            now = now.substring(0, at) + piece.into() + now.substring(at + piece.from().length());
        }
        return now;
    }

    private static final class Source extends SimpleJavaFileObject {
        private final String text;

        Source(String text) {
            super(URI.create("string:///OneLetterWrong.java"), Kind.SOURCE);
            this.text = text;
        }

        @Override
        public CharSequence getCharContent(boolean ignored) {
            return text;
        }
    }

    private static final class Made extends SimpleJavaFileObject {
        private final ByteArrayOutputStream bytes = new ByteArrayOutputStream();

        Made(String name) {
            super(URI.create("made:///" + name + ".class"), Kind.CLASS);
        }

        @Override
        public OutputStream openOutputStream() {
            return bytes;
        }
    }

    private static Map<String, byte[]> compiled(String text) {
        JavaCompiler compiler = ToolProvider.getSystemJavaCompiler();
        Map<String, Made> made = new HashMap<>();
        JavaFileManager files = new ForwardingJavaFileManager<JavaFileManager>(compiler.getStandardFileManager(null, null, null)) {
            @Override
            public JavaFileObject getJavaFileForOutput(Location at, String name, JavaFileObject.Kind kind, FileObject by) {
                return made.computeIfAbsent(name, Made::new);
            }
        };
        boolean done = compiler.getTask(null, files, told -> { }, List.of("-nowarn", "-proc:none"), null,
                List.of(new Source(text))).call();
        Map<String, byte[]> classes = new HashMap<>();
        if (done) {
            made.forEach((name, one) -> classes.put(name, one.bytes.toByteArray()));
        }
        return classes;
    }

    /** The tests once more, on the broken class. */
    private static final class Loader extends ClassLoader {
        private final Map<String, byte[]> classes;

        Loader(Map<String, byte[]> classes) {
            super(ClassLoader.getPlatformClassLoader());
            this.classes = classes;
        }

        @Override
        protected Class<?> findClass(String name) throws ClassNotFoundException {
            byte[] bytes = classes.get(name);
            try (java.io.InputStream in = EdgesAreSharp.class.getResourceAsStream("/" + name + ".class")) {
                if (bytes == null && in != null) {
                    bytes = in.readAllBytes();
                }
            } catch (IOException e) {
                throw new ClassNotFoundException(name, e);
            }
            if (bytes == null) {
                throw new ClassNotFoundException(name);
            }
            return defineClass(name, bytes, 0, bytes.length);
        }
    }

    /** Whether a test finds something wrong with these classes, or doesn't end in time. */
    private static boolean fails(Map<String, byte[]> classes, String home, String test) {
        boolean[] found = {false};
        Thread thread = new Thread(() -> found[0] = findsWrong(classes, home, test));
        thread.setDaemon(true);
        thread.start();
        try {
            thread.join(MOST_MILLIS);
        } catch (InterruptedException e) {
            return false;
        }
        return thread.isAlive() || found[0];
    }

    private static boolean findsWrong(Map<String, byte[]> classes, String home, String test) {
        try {
            Loader loader = new Loader(classes);
            Method failures = loader.loadClass("Edges").getDeclaredMethod("failures", Method.class);
            failures.setAccessible(true);
            Method broken = loader.loadClass(home).getDeclaredMethod(test);
            return !((List<?>) failures.invoke(null, broken)).isEmpty();
        } catch (ReflectiveOperationException e) {
            fail(test + " can't be called: " + e);
            return false;
        }
    }
}
