import java.io.IOException;
import java.lang.reflect.Method;
import java.nio.file.Files;
import java.nio.file.Path;
import java.util.List;
import java.util.Map;
import java.util.TreeMap;
import java.util.regex.Matcher;
import java.util.regex.Pattern;

/**
 * Whether the tests of edges leave out nothing of the document: each is named after a promise and quotes what stands
 * there or in the terms, and no sentence of a promise, and no part of the terms, is without a test that quotes it.
 */
public final class SentencesTest {
    private static final List<Class<?>> TESTS = List.of(BoardEdgesTest.class, ActEdgesTest.class, SealEdgesTest.class,
        YarnEdgesTest.class, DrawEdgesTest.class);
    private static final int PROMISES = 43;
    private static int wrong = 0;

    private static void need(boolean holds, String what) {
        if (!holds) {
            wrong++;
            System.out.println("not so: " + what);
        }
    }

    private static String plain(String text) {
        return text.replaceAll("```\\w*", " ").replaceAll("==== [IV]+\\.", " ").replaceAll("\\s+", " ").trim();
    }

    private static String between(String document, String from, String to) {
        int start = document.indexOf(from);
        int end = document.indexOf(to, start + 1);
        need(start >= 0 && end > start, "the document has " + from + " ahead of " + to);
        return start >= 0 && end > start ? document.substring(start + from.length(), end) : "";
    }

    /** A text of the document, and which of its signs are quoted. */
    private static final class Part {
        final String text;
        final boolean[] quoted;

        Part(String text) {
            this.text = text;
            quoted = new boolean[text.length()];
        }

        boolean quote(String words) {
            boolean found = false;
            for (int at = text.indexOf(words); at >= 0; at = text.indexOf(words, at + 1)) {
                found = true;
                for (int i = at; i < at + words.length(); i++) {
                    quoted[i] = true;
                }
            }
            return found;
        }

        /** What has letters or digits and is quoted by no test. */
        String left() {
            StringBuilder left = new StringBuilder();
            for (int i = 0; i < text.length(); i++) {
                left.append(quoted[i] ? '|' : text.charAt(i));
            }
            return left.toString().replaceAll("\\|+", "|").replaceAll("[^A-Za-z0-9|]+", " ").replaceAll("[| ]+", " ").trim();
        }
    }

    public static void main(String[] args) throws IOException {
        Path shared = Path.of(args.length > 1 ? args[1] : "../shared");
        String document = Files.readString(shared.resolve("DOC.md"));
        Part use = new Part(plain("An object is used" + between(document, "\nAn object is used", "\n## ")));
        Part terms = new Part(plain(between(document, "## Terms", "## Promise 1:")));
        Map<Integer, Part> promises = new TreeMap<>();
        Map<Integer, String> names = new TreeMap<>();
        Matcher m = Pattern.compile("## Promise (\\d+): ([^\\n]*)\\n(.*?)(?=\\n## )", Pattern.DOTALL).matcher(document);
        while (m.find()) {
            int number = Integer.parseInt(m.group(1));
            names.put(number, number == 1 ? "new" : m.group(2).trim());
            // The face is looked at elsewhere.
            promises.put(number, new Part(plain(m.group(3)).replaceFirst("^`[^`]*`: ", "")));
        }
        need(promises.size() == PROMISES, "there are " + PROMISES + " promises");
        int tests = 0;
        for (Class<?> each : TESTS) {
            for (Method test : Edges.testsOf(each)) {
                tests++;
                Matcher name = Pattern.compile("p(\\d+)([A-Za-z]+)_\\w+").matcher(test.getName());
                boolean fits = name.matches();
                int number = fits ? Integer.parseInt(name.group(1)) : 0;
                need(fits && name.group(2).equals(names.get(number)), test.getName() + " is named after a promise");
                for (String words : test.getAnnotation(Edges.Says.class).value()) {
                    Part own = promises.get(number);
                    boolean found = own != null && own.quote(words);
                    found |= terms.quote(words);
                    found |= use.quote(words);
                    need(found, test.getName() + " quotes the document: " + words);
                }
            }
        }
        need(use.left().isEmpty(), "all of the use is quoted: " + use.left());
        need(terms.left().isEmpty(), "all of the terms is quoted: " + terms.left());
        promises.forEach((number, part) ->
            need(part.left().isEmpty(), "all of promise " + number + " is quoted: " + part.left()));
        System.out.println(tests + " tests quote the document, " + wrong + " of it not as due");
        if (wrong != 0) {
            System.exit(1);
        }
    }
}
