import java.io.IOException;
import java.lang.management.ManagementFactory;
import java.lang.reflect.Constructor;
import java.lang.reflect.Field;
import java.lang.reflect.Method;
import java.lang.reflect.Modifier;
import java.nio.charset.StandardCharsets;
import java.nio.file.Files;
import java.nio.file.Path;
import java.util.ArrayList;
import java.util.List;
import java.util.Set;
import java.util.TreeSet;
import java.util.function.IntConsumer;
import java.util.regex.Matcher;
import java.util.regex.Pattern;

/** What of LANGUAGE.md a program can look at: the face, the words that are ruled out, sizes, and what calls make. */
public final class LanguageTest {
    // What the looking itself may make.
    private static final long SLACK = 1000;
    private static int wrong = 0;
    private static int asked = 0;

    private static void need(boolean holds, String what) {
        asked++;
        if (!holds) {
            wrong++;
            System.out.println("not so: " + what);
        }
    }

    private static String typed(Class<?> type, String name, Class<?>[] parameters) {
        StringBuilder s = new StringBuilder(type == null ? "" : type + " ").append(name).append('(');
        for (int i = 0; i < parameters.length; i++) {
            s.append(i == 0 ? "" : ", ").append(parameters[i]);
        }
        return s.append(')').toString();
    }

    /** The document's lines of the face, less their "public", names of parameters and ";". */
    private static Set<String> faceOfDocument(Path document) throws IOException {
        Set<String> face = new TreeSet<>();
        Matcher m = Pattern.compile("(?m)^    public (?!static)(.*)\\((.*)\\);$").matcher(Files.readString(document));
        while (m.find()) {
            String parameters = m.group(2).replaceAll("(\\w+) \\w+", "$1");
            face.add(m.group(1) + "(" + parameters + ")");
        }
        return face;
    }

    private static void face(Path document) throws IOException {
        Class<?> c = LinenBoard.class;
        Set<String> face = new TreeSet<>();
        for (Constructor<?> made : c.getDeclaredConstructors()) {
            need(Modifier.isPublic(made.getModifiers()), "the constructor is public");
            face.add(typed(null, c.getSimpleName(), made.getParameterTypes()));
        }
        for (Method method : c.getDeclaredMethods()) {
            boolean open = Modifier.isPublic(method.getModifiers());
            need(open || Modifier.isPrivate(method.getModifiers()), method + " is public or private");
            if (open) {
                face.add(typed(method.getReturnType(), method.getName(), method.getParameterTypes()));
            }
        }
        need(face.equals(faceOfDocument(document)), "the face is the document's: " + face);
        need(face.size() == 43, "the face has the constructor and 42 methods");
        for (Field field : c.getDeclaredFields()) {
            boolean open = field.getName().equals("NONE");
            need(open == Modifier.isPublic(field.getModifiers()) && (open || Modifier.isPrivate(field.getModifiers())),
                field + " is private");
        }
        need(Modifier.isPublic(c.getModifiers()) && Modifier.isFinal(c.getModifiers()), "the class is public and final");
    }

    private static void classes() {
        Set<String> open = new TreeSet<>();
        for (Method method : LinenBoard.class.getDeclaredMethods()) {
            if (Modifier.isPublic(method.getModifiers())) {
                open.add(method.getName());
            }
        }
        List<Class<?>> all = new ArrayList<>(List.of(LinenBoard.class.getDeclaredClasses()));
        for (Class<?> inside : all) {
            need(Modifier.isStatic(inside.getModifiers()), inside + " is static");
            need(!Modifier.isPublic(inside.getModifiers()) && !Modifier.isProtected(inside.getModifiers()),
                inside + " is private or package-visible");
        }
        all.add(LinenBoard.class);
        need(all.size() <= 12, "there are twelve classes at most");
        for (Class<?> each : all) {
            int fields = 0;
            for (Field field : each.getDeclaredFields()) {
                boolean constant = Modifier.isStatic(field.getModifiers());
                fields += constant ? 0 : 1;
                need(!constant || Modifier.isFinal(field.getModifiers()), field + " is final");
            }
            need(fields <= 20, each + " has twenty fields at most");
            for (Method method : each.getDeclaredMethods()) {
                need(method.getParameterCount() <= 7, method + " has seven parameters at most");
                need(!method.isSynthetic(), method + " is written");
                need(Modifier.isPublic(method.getModifiers()) || !open.contains(method.getName()),
                    method + " doesn't bear the name of a public one");
            }
        }
    }

    private static String bare(String source) {
        return source.replaceAll("(?s)/\\*.*?\\*/", "").replaceAll("//[^\n]*", "")
            .replaceAll("\"[^\"\n]*\"", "\"\"").replaceAll("'(\\\\.|[^'\\\\])'", "' '");
    }

    private static void words(Path file) throws IOException {
        byte[] bytes = Files.readAllBytes(file);
        boolean plain = true;
        for (byte b : bytes) {
            plain = plain && (b == '\n' || (b >= 32 && b < 127));
        }
        need(plain, "the source is plain");
        String source = bare(new String(bytes, StandardCharsets.US_ASCII));
        String[] out = {"\\bthrow\\b", "\\bthrows\\b", "\\btry\\b", "\\bcatch\\b", "\\bsynchronized\\b", "\\bassert\\b",
            "->", "::", "\\bpackage\\b", "Exact\\b", "\\bprotected\\b", "\\bstatic\\s*\\{", "\\bequals\\b", "\\bhashCode\\b",
            "\\btoString\\b", "\\bdouble\\b", "\\bfloat\\b", "\\bThread\\b", "\\bRandom\\b", "\\bSystem\\.(?!arraycopy)",
            "\\bwhile\\s*\\(\\s*true", "\\bfor\\s*\\(\\s*;", "\"\\s*\\+", "\\+\\s*\"", "\\bvar\\b", "\\binstanceof\\b"};
        for (String word : out) {
            need(!Pattern.compile(word).matcher(source).find(), "the source has no " + word);
        }
        Matcher imports = Pattern.compile("(?m)^import (.*);$").matcher(source);
        while (imports.find()) {
            need(Set.of("java.util.Arrays", "java.util.ArrayList", "java.util.List").contains(imports.group(1)),
                imports.group(1) + " may be used");
        }
        methodsAreShort(source.split("\n", -1));
    }

    private static void methodsAreShort(String[] lines) {
        Pattern head = Pattern.compile("^( {4}| {8})(?!if\\b|for\\b|switch\\b|return\\b)\\w[\\w\\[\\]<> ]*\\([^=;]*\\{$");
        int methods = 0;
        for (int i = 0; i < lines.length; i++) {
            Matcher m = head.matcher(lines[i]);
            if (m.find()) {
                int end = i;
                while (end < lines.length && !lines[end].equals(m.group(1) + "}")) {
                    end++;
                }
                need(end - i < 60, "short: " + lines[i].trim());
                methods++;
            }
        }
        need(methods > 43, "methods are found");
    }

    private static long madeBy(IntConsumer call, int times) {
        com.sun.management.ThreadMXBean bean = (com.sun.management.ThreadMXBean) ManagementFactory.getThreadMXBean();
        long thread = Thread.currentThread().getId();
        call.accept(0);
        long before = bean.getThreadAllocatedBytes(thread);
        for (int i = 0; i < times; i++) {
            call.accept(i);
        }
        return bean.getThreadAllocatedBytes(thread) - before;
    }

    private static LinenBoard full() {
        LinenBoard x = new LinenBoard();
        x.town(100);
        for (int i = 0; i < 30; i++) {
            x.person(0, i % 10);
            x.seed(i, i % 7);
        }
        x.die(0);
        for (int i = 0; i < 40; i++) {
            x.trade(i * 7 % 30, i * 11 % 29, i * 37 % 90);
        }
        for (int i = 0; i < 50; i++) {
            x.web(i % 30);
            x.measure(i, 0, 100, 50, 10 + i, 3);
            x.seal(0, i, 0);
        }
        x.lot(40);
        x.draw(0, 40, 1);
        return x;
    }

    /** All calls but act make nothing, and a new object little: a run has one room for all its calls. */
    private static void room() {
        LinenBoard x = full();
        need(madeBy(i -> new LinenBoard(), 100) < 100L * 80000, "a new object is small");
        need(madeBy(i -> x.doubt(i % 40, i % 40 + 9, -1), 100) < SLACK, "doubt makes nothing");
        need(madeBy(i -> x.proof(i % 40, i % 40 + 9, i), 100) < SLACK, "proof makes nothing");
        need(madeBy(i -> x.tried(-1, i % 3), 100) < SLACK, "tried makes nothing");
        need(madeBy(i -> x.prize(30, i, 9), 100) < SLACK, "prize makes nothing");
        need(madeBy(i -> x.claim(i % 50), 70) < SLACK, "claim makes nothing");
        need(madeBy(i -> x.look(i % 50), 100) < SLACK, "look makes nothing");
        need(madeBy(i -> x.kind(0, i % 4), 100) < SLACK, "kind makes nothing");
        need(madeBy(i -> x.judge(0, i), 100) < SLACK, "judge makes nothing");
        need(madeBy(i -> x.image(), 100) < SLACK, "image makes nothing");
        need(madeBy(i -> x.back(), 100) < SLACK, "back makes nothing");
        need(madeBy(i -> x.feed(0, 0, 0, 0, 0), 15) < SLACK, "feed makes nothing");
        need(madeBy(i -> x.act(), 100) < 100L * 2000, "act makes little");
    }

    public static void main(String[] args) throws IOException {
        Path root = Path.of(args.length > 0 ? args[0] : ".");
        Path shared = Path.of(args.length > 1 ? args[1] : "../shared");
        face(shared.resolve("DOC.md"));
        classes();
        words(root.resolve("src/main/java/LinenBoard.java"));
        room();
        System.out.println(asked + " rules looked at, " + wrong + " broken");
        if (wrong != 0) {
            System.exit(1);
        }
    }
}
