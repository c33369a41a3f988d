import java.io.IOException;
import java.nio.file.Files;
import java.nio.file.Path;
import java.util.ArrayList;
import java.util.List;
import java.util.regex.Matcher;
import java.util.regex.Pattern;

/** The README's Java stands here word for word, between the lines of dashes, and answers what the README says. */
public final class ReadmeTest {
    private static int wrong = 0;

    private static void due(String what, long got, long want) {
        if (got != want) {
            wrong++;
            System.out.println(what + " answered " + got + ", due is " + want);
        }
    }

    private static void example() {
        // ----
        LinenBoard board = new LinenBoard();
        int town = board.town(110);               // its inch is 110 hundredths of the board's
        int weaver = board.person(town, 3);       // of kin 3
        int master = board.person(town, 5);
        int web = board.web(weaver);
        board.measure(web, 0, 50, 40, 20, 2);     // from day 0: width, count, length, weeks

        int act = enact(board, "sort 1 width > 40; seal sort < 9; fee 2; bounty width * length / 10; shrink 10;");
        board.force(act, 0, 99);                  // from day 0 to day 99
        int width = board.board(web, 0, 0, 0);    // 45: 50 by the town's inch is 55, then 50, then 45
        int sort = board.board(web, 0, 0, 4);     // 1

        int die = board.die(master);
        int seal = board.seal(die, web, 0);       // no flaws are seen in it
        int good = board.sealOf(seal, 4);         // 1
        int claim = board.claim(web);
        int paid = board.claimOf(claim, 2);       // 88

        board.image();
        board.undo(claim);
        long cameBack = board.book(1);            // 88
        board.back();
        long stands = board.book(0);              // 88
        // ----
        due("width", width, 45);
        due("sort", sort, 1);
        due("good", good, 1);
        due("paid", paid, 88);
        due("cameBack", cameBack, 88);
        due("stands", stands, 88);
    }

    // ----
    static int enact(LinenBoard board, String text) {
        board.end(0);
        int[] five = new int[5];
        for (int from = 0; from < text.length(); from += 20) {
            for (int i = 0; i < 20; i++) {
                int sign = from + i < text.length() ? text.charAt(from + i) : ' ';
                five[i / 4] = five[i / 4] << 8 | sign;
            }
            board.feed(five[0], five[1], five[2], five[3], five[4]);
        }
        board.end(text.length());
        return board.act();                       // NONE: fault(0) tells what is wrong, fault(1) at which byte
    }
    // ----

    /** What stands between one line of dashes and the next, less what all its lines are set in by. */
    private static List<String> examplesOf(String source) {
        List<String> examples = new ArrayList<>();
        Matcher m = Pattern.compile("(?ms)^( +)// ----\n(.*?)^\\1// ----\n").matcher(source);
        while (m.find()) {
            examples.add(m.group(2).replaceAll("(?m)^" + m.group(1), ""));
        }
        return examples;
    }

    private static void standsInReadme(Path root) throws IOException {
        String readme = Files.readString(root.resolve("README.md"));
        List<String> examples = examplesOf(Files.readString(root.resolve("src/test/java/ReadmeTest.java")));
        due("examples", examples.size(), 2);
        Matcher block = Pattern.compile("(?s)```java\n(.*?)```").matcher(readme);
        int blocks = 0;
        while (block.find()) {
            blocks++;
            due("block " + blocks + " of README.md stands here", examples.contains(block.group(1)) ? 1 : 0, 1);
        }
        due("blocks of Java in README.md", blocks, 2);
    }

    /** Each call of the face is in the README's table, and none that there isn't. */
    private static void tellsTheFace(Path root) throws IOException {
        String readme = Files.readString(root.resolve("README.md"));
        StringBuilder rows = new StringBuilder();
        readme.lines().filter(l -> l.startsWith("| ")).forEach(l -> rows.append(l).append('\n'));
        List<String> told = new ArrayList<>();
        Matcher m = Pattern.compile("`(\\w+)`").matcher(rows);
        while (m.find()) {
            told.add(m.group(1));
        }
        List<String> face = new ArrayList<>();
        for (var method : LinenBoard.class.getMethods()) {
            if (method.getDeclaringClass() == LinenBoard.class) {
                face.add(method.getName());
            }
        }
        told.sort(null);
        face.sort(null);
        due("README.md tells each call once: " + told, told.equals(face) ? 1 : 0, 1);
    }

    public static void main(String[] args) throws IOException {
        Path root = Path.of(args.length > 0 ? args[0] : ".");
        example();
        standsInReadme(root);
        tellsTheFace(root);
        System.out.println(wrong == 0 ? "the README is as due" : wrong + " not as due in the README");
        if (wrong != 0) {
            System.exit(1);
        }
    }
}
