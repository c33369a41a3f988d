import java.io.ByteArrayOutputStream;
import java.io.IOException;
import java.io.OutputStream;
import java.lang.annotation.Annotation;
import java.lang.reflect.InvocationTargetException;
import java.lang.reflect.Method;
import java.net.URI;
import java.nio.file.DirectoryStream;
import java.nio.file.Files;
import java.nio.file.Path;
import java.util.ArrayList;
import java.util.Collections;
import java.util.Comparator;
import java.util.HashMap;
import java.util.List;
import java.util.Map;
import java.util.concurrent.atomic.AtomicInteger;
import java.util.regex.Matcher;
import java.util.regex.Pattern;
import javax.tools.FileObject;
import javax.tools.ForwardingJavaFileManager;
import javax.tools.JavaCompiler;
import javax.tools.JavaFileObject;
import javax.tools.SimpleJavaFileObject;
import javax.tools.StandardJavaFileManager;
import javax.tools.ToolProvider;

/**
 * Breaks the class in one place at a time and tells which broken copies no test of edges catches: these tests lack a
 * sentence, or what was broken can't be seen from outside (most are guards that nothing comes to).
 *
 * <p>Use: java -cp (classes of this tool) Mutants (LinenBoard.java) (classes of the tests).
 */
public final class Mutants {
    private static final int THREADS = Runtime.getRuntime().availableProcessors();
    private static final long PATIENCE = 10000;

    private static final String[][] CHANGES = {
        {"(?<![<>=!\\-])<(?![<=])", "<="}, {"<=", "<"}, {"(?<![<>=!\\-])>(?![>=])", ">="}, {">=", ">"},
        {"==", "!="}, {"!=", "=="}, {"&&", "||"}, {"\\|\\|", "&&"}, {"!(?=[a-zA-Z(])", ""},
        {"(?<=[\\w)\\]] )\\+(?= )", "-"}, {"(?<=[\\w)\\]] )-(?= )", "+"}, {"(?<=[\\w)\\]] )\\*(?= )", "/"},
        {"(?<=[\\w)\\]] )/(?= )", "*"}, {"(?<=[\\w)\\]] )%(?= )", "/"}, {">>>", ">>"}, {"(?<= )& ", "| "},
        {"\\+=", "-="}, {"-=", "+="}, {"\\|=", "&="}, {"\\btrue\\b", "false"}, {"\\bfalse\\b", "true"},
        {"Math\\.max", "Math.min"}, {"Math\\.min", "Math.max"},
        // A statement is left out.
        {"(?m)(?<=^ {8,40})(?!return|int |long |boolean |final |private |Act |Rows |case |break|default)[a-z][^\\n{}]*;$", ";"}};

    private record Mutant(int start, int end, String with) {
        String of(String source) {
            return source.substring(0, start) + with + source.substring(end);
        }

        String told(String source) {
            int line = 1 + (int) source.substring(0, start).chars().filter(c -> c == '\n').count();
            int from = source.lastIndexOf('\n', start) + 1;
            int to = source.indexOf('\n', end);
            String now = source.substring(from, start) + "[[" + with + "]]" + source.substring(end, to);
            return line + ": " + source.substring(from, to).trim() + "\n    " + now.trim();
        }
    }

    private static final class Text extends SimpleJavaFileObject {
        private final String source;

        Text(String source) {
            super(URI.create("string:///LinenBoard.java"), Kind.SOURCE);
            this.source = source;
        }

        @Override
        public CharSequence getCharContent(boolean ignoreEncodingErrors) {
            return source;
        }
    }

    private static final class Compiled extends SimpleJavaFileObject {
        private final ByteArrayOutputStream bytes = new ByteArrayOutputStream();

        Compiled(String name) {
            super(URI.create("memory:///" + name + ".class"), Kind.CLASS);
        }

        @Override
        public OutputStream openOutputStream() {
            return bytes;
        }
    }

    private static final class Memory extends ForwardingJavaFileManager<StandardJavaFileManager> {
        private final Map<String, Compiled> made = new HashMap<>();

        Memory(StandardJavaFileManager files) {
            super(files);
        }

        @Override
        public JavaFileObject getJavaFileForOutput(Location at, String name, JavaFileObject.Kind kind, FileObject beside) {
            return made.computeIfAbsent(name, Compiled::new);
        }
    }

    /** The broken class and the tests, apart from all other copies. */
    private static final class Copy extends ClassLoader {
        private final Map<String, byte[]> classes;

        Copy(Map<String, byte[]> classes) {
            super(ClassLoader.getPlatformClassLoader());
            this.classes = classes;
        }

        @Override
        protected Class<?> findClass(String name) throws ClassNotFoundException {
            byte[] bytes = classes.get(name);
            if (bytes == null) {
                throw new ClassNotFoundException(name);
            }
            return defineClass(name, bytes, 0, bytes.length);
        }
    }

    private static List<Mutant> mutantsOf(String source) {
        char[] signs = source.toCharArray();
        Matcher aside = Pattern.compile("(?s)/\\*.*?\\*/|//[^\n]*|\"[^\"\n]*\"|'(\\\\.|[^'\\\\])'").matcher(source);
        while (aside.find()) {
            for (int i = aside.start(); i < aside.end(); i++) {
                signs[i] = signs[i] == '\n' ? '\n' : 1;
            }
        }
        String bare = new String(signs);
        List<Mutant> all = new ArrayList<>();
        for (String[] change : CHANGES) {
            Matcher m = Pattern.compile(change[0]).matcher(bare);
            while (m.find()) {
                all.add(new Mutant(m.start(), m.end(), change[1]));
            }
        }
        Matcher number = Pattern.compile("(?<![\\w.])\\d+(?![\\w.])").matcher(bare);
        while (number.find()) {
            long value = Long.parseLong(number.group());
            all.add(new Mutant(number.start(), number.end(), "(" + (value + 1) + ")"));
            all.add(new Mutant(number.start(), number.end(), "(" + (value - 1) + ")"));
        }
        return all;
    }

    /** Null if it doesn't compile. */
    private static Map<String, byte[]> compiled(JavaCompiler javac, String source) throws IOException {
        try (Memory memory = new Memory(javac.getStandardFileManager(null, null, null))) {
            List<String> options = List.of("-proc:none", "--release", "17");
            if (!javac.getTask(null, memory, problem -> { }, options, null, List.of(new Text(source))).call()) {
                return null;
            }
            Map<String, byte[]> classes = new HashMap<>();
            memory.made.forEach((name, file) -> classes.put(name, file.bytes.toByteArray()));
            return classes;
        }
    }

    private static boolean allPass(Copy copy, List<String> tests) {
        try {
            Class<? extends Annotation> says = copy.loadClass("Edges$Says").asSubclass(Annotation.class);
            for (String name : tests) {
                for (Method test : copy.loadClass(name).getDeclaredMethods()) {
                    if (test.isAnnotationPresent(says)) {
                        test.setAccessible(true);
                        test.invoke(null);
                    }
                }
            }
            return true;
        } catch (InvocationTargetException e) {
            return false;
        } catch (ReflectiveOperationException e) {
            throw new IllegalStateException(e);
        }
    }

    /** A copy that doesn't end is caught as well. */
    @SuppressWarnings({"deprecation", "removal"})
    private static boolean isCaught(Map<String, byte[]> classes, List<String> tests) throws InterruptedException {
        boolean[] passed = {false};
        Thread run = new Thread(() -> passed[0] = allPass(new Copy(classes), tests));
        run.setDaemon(true);
        run.start();
        run.join(PATIENCE);
        if (run.isAlive()) {
            run.stop();
        }
        return !passed[0];
    }

    public static void main(String[] args) throws IOException, InterruptedException {
        String source = Files.readString(Path.of(args[0]));
        Map<String, byte[]> classes = new HashMap<>();
        List<String> tests = new ArrayList<>();
        try (DirectoryStream<Path> files = Files.newDirectoryStream(Path.of(args[1]), "*.class")) {
            for (Path file : files) {
                String name = file.getFileName().toString().replace(".class", "");
                if (!name.startsWith("LinenBoard")) {
                    classes.put(name, Files.readAllBytes(file));
                }
                if (name.endsWith("EdgesTest")) {
                    tests.add(name);
                }
            }
        }
        List<Mutant> all = mutantsOf(source);
        List<Mutant> alive = Collections.synchronizedList(new ArrayList<>());
        AtomicInteger next = new AtomicInteger();
        List<Thread> threads = new ArrayList<>();
        for (int i = 0; i < THREADS; i++) {
            threads.add(new Thread(() -> {
                JavaCompiler javac = ToolProvider.getSystemJavaCompiler();
                for (int k = next.getAndIncrement(); k < all.size(); k = next.getAndIncrement()) {
                    try {
                        Map<String, byte[]> broken = compiled(javac, all.get(k).of(source));
                        if (broken != null) {
                            broken.putAll(classes);
                            if (!isCaught(broken, tests)) {
                                alive.add(all.get(k));
                            }
                        }
                    } catch (IOException | InterruptedException e) {
                        throw new IllegalStateException(e);
                    }
                }
            }));
        }
        threads.forEach(Thread::start);
        for (Thread thread : threads) {
            thread.join();
        }
        alive.sort(Comparator.comparingInt(Mutant::start));
        alive.forEach(mutant -> System.out.println(mutant.told(source)));
        System.out.println(all.size() + " broken copies, " + alive.size() + " not caught");
        System.exit(0);
    }
}
