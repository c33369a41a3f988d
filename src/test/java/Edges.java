import java.lang.annotation.ElementType;
import java.lang.annotation.Retention;
import java.lang.annotation.RetentionPolicy;
import java.lang.annotation.Target;
import java.lang.reflect.InvocationTargetException;
import java.lang.reflect.Method;
import java.util.Arrays;
import java.util.Comparator;
import java.util.List;

/** What the tests of edges share: a test is a method named after its promise, with the sentence that it is of. */
final class Edges {
    static final int LOW = Integer.MIN_VALUE;
    static final int HIGH = Integer.MAX_VALUE;

    /** The sentence of the document, or that part of it, that would be broken if the test failed. */
    @Retention(RetentionPolicy.RUNTIME)
    @Target(ElementType.METHOD)
    @interface Says {
        String[] value();
    }

    private Edges() { }

    static void due(String what, long got, long want) {
        if (got != want) {
            throw new AssertionError(what + " answered " + got + ", due is " + want);
        }
    }

    static void due(String what, boolean got, boolean want) {
        due(what, got ? 1 : 0, want ? 1 : 0);
    }

    static List<Method> testsOf(Class<?> tests) {
        return Arrays.stream(tests.getDeclaredMethods())
            .filter(m -> m.isAnnotationPresent(Says.class))
            .sorted(Comparator.comparing(Method::getName))
            .toList();
    }

    /** Runs each test by itself, tells those that fail, and ends with exit code 1 if there was one. */
    static void run(Class<?> tests) {
        int failed = 0;
        List<Method> all = testsOf(tests);
        for (Method test : all) {
            String fault = faultOf(test);
            if (fault != null) {
                failed++;
                System.out.println(test.getName() + ": " + fault);
                System.out.println("    the document says: " + String.join(" / ", test.getAnnotation(Says.class).value()));
            }
        }
        System.out.println(all.size() + " edges, " + failed + " not as due");
        if (failed != 0 || all.isEmpty()) {
            System.exit(1);
        }
    }

    private static String faultOf(Method test) {
        try {
            test.invoke(null);
            return null;
        } catch (InvocationTargetException e) {
            Throwable cause = e.getCause();
            return cause instanceof AssertionError ? cause.getMessage() : "threw " + cause;
        } catch (IllegalAccessException e) {
            return "can't be run: " + e;
        }
    }

    // ---- boards to begin with

    /** A town by the board's inch and a person there, of kin 0. */
    static LinenBoard onePerson() {
        LinenBoard x = new LinenBoard();
        x.town(100);
        x.person(0, 0);
        return x;
    }

    /** So many persons of a town by the board's inch, with the numbers as their kins. */
    static LinenBoard persons(int n) {
        LinenBoard x = new LinenBoard();
        x.town(100);
        for (int i = 0; i < n; i++) {
            x.person(0, i % 10);
        }
        return x;
    }

    /** One person with a web, 100 wide, 50 the count, 10 long, not bleached, from day 0: its need is 51. */
    static LinenBoard oneWeb() {
        LinenBoard x = onePerson();
        x.web(0);
        x.measure(0, 0, 100, 50, 10, 0);
        return x;
    }

    /** The same with a die of that person. */
    static LinenBoard oneDie() {
        LinenBoard x = oneWeb();
        x.die(0);
        return x;
    }

    /** The same with a seal on day 0 that is good. */
    static LinenBoard goodSeal() {
        LinenBoard x = oneDie();
        x.seal(0, 0, 0);
        return x;
    }

    /** The same, but the seal is forged. */
    static LinenBoard forgedSeal() {
        LinenBoard x = oneDie();
        x.seal(0, 0, 1);
        return x;
    }

    /** One lot of n hanks, of which m are drawn by seed 0. */
    static LinenBoard drawnLot(int n, int m) {
        LinenBoard x = new LinenBoard();
        x.lot(n);
        x.draw(0, m, 0);
        return x;
    }

    // ---- texts

    static void feedText(LinenBoard x, String text) {
        x.end(0);
        int[] five = new int[5];
        for (int from = 0; from < text.length(); from += 20) {
            for (int i = 0; i < 20; i++) {
                int place = from + i;
                five[i / 4] = five[i / 4] << 8 | (place < text.length() ? text.charAt(place) & 255 : 0);
            }
            x.feed(five[0], five[1], five[2], five[3], five[4]);
        }
        x.end(text.length());
    }

    static int act(LinenBoard x, String text) {
        feedText(x, text);
        return x.act();
    }

    /** An act in force from the clock's day to the last one. */
    static int inForce(LinenBoard x, String text) {
        int act = act(x, text);
        due("act of '" + text + "' is one", act >= 0, true);
        due("it is in force", x.force(act, x.about(0), 999) >= 0, true);
        return act;
    }

    static void faulty(String text, int fault, int place) {
        LinenBoard x = new LinenBoard();
        due("act of '" + text + "'", act(x, text), -1);
        due("the fault of '" + text + "'", x.fault(0), fault);
        due("the fault's place in '" + text + "'", x.fault(1), place);
        due("acts behind '" + text + "'", x.about(6), 0);
    }

    static void sound(String text) {
        LinenBoard x = new LinenBoard();
        due("act of '" + text + "'", act(x, text), 0);
        due("the fault of '" + text + "'", x.fault(0), 0);
        due("the fault's place in '" + text + "'", x.fault(1), -1);
    }

    /** Seen by the bounty and by the fine, which is that less: one of them is 0. */
    static void value(String sum, long want) {
        LinenBoard x = oneWeb();
        inForce(x, "bounty " + sum + ";fine 0-(" + sum + ");");
        due("value of " + sum, (long) x.sum(0, 0, 0, 1) - x.sum(0, 0, 0, 2), want);
    }

    static void asks(String either, boolean want) {
        LinenBoard x = oneWeb();
        inForce(x, "seal " + either + ";");
        due("whether " + either, x.board(0, 0, 0, 5) == -1, want);
    }
}
