import java.lang.reflect.Method;
import java.math.BigInteger;
import java.util.ArrayDeque;
import java.util.ArrayList;
import java.util.Arrays;
import java.util.Deque;
import java.util.HashMap;
import java.util.HashSet;
import java.util.List;
import java.util.Map;
import java.util.Random;
import java.util.Set;
import java.util.regex.Matcher;
import java.util.regex.Pattern;

/**
 * Random runs of calls, answered by the class and by a model that is written from the document in another way: texts
 * are checked by a table of modes and worked out by splitting them, sets of webs are tried one by one, and an image is
 * the list of the calls that led to it.
 */
public final class OracleTest {

    /** A call that was done, or a text that became an act. */
    private record Done(String name, int[] args, String text) { }

    private record Token(String text, int place) { }

    private static final class Model {
        private static final Pattern TOKENS = Pattern.compile("[a-zA-Z]+|[0-9]+|<=|>=|[<>=#+\\-*/(),;]");
        private static final Set<String> NAMES = Set.of("width", "count", "length", "weeks", "town", "sort", "day");
        private static final Set<String> RELATIONS = Set.of("<", "<=", ">", ">=", "=", "#");
        private static final Map<String, int[]> TOLD = Map.of("sort", new int[] {0, 9}, "shrink", new int[] {0, 20},
            "yield", new int[] {1, 99}, "hank", new int[] {1, 500}, "level", new int[] {0, 100});
        private static final Map<String, Integer> UNTOLD = Map.of("shrink", 0, "yield", 10, "hank", 100, "level", 5);
        private static final Set<String> SUMS = Set.of("fee", "bounty", "fine");
        private static final Set<String> EITHERS = Set.of("sort", "seal", "prize");

        int day;
        int allow;
        int out;
        int home;
        int round;
        List<Integer> towns;
        List<int[]> persons;
        List<int[]> dies;
        List<Integer> webs;
        List<int[]> measures;
        List<List<List<String>>> acts;
        List<int[]> forces;
        List<int[]> seals;
        List<int[]> looks;
        List<int[]> claims;
        List<int[]> fines;
        List<int[]> trades;
        List<int[]> lots;
        List<int[]> drawn;
        List<Map<Integer, Integer>> counted;

        String tape = "";
        int fault = -1;
        int place = -1;
        List<List<String>> beside;
        List<Done> log = new ArrayList<>();
        List<Done> image = new ArrayList<>();

        Model() {
            clear();
        }

        private void clear() {
            day = 0;
            allow = 1;
            out = 0;
            home = 0;
            round = 0;
            towns = new ArrayList<>();
            persons = new ArrayList<>();
            dies = new ArrayList<>();
            webs = new ArrayList<>();
            measures = new ArrayList<>();
            acts = new ArrayList<>();
            forces = new ArrayList<>();
            seals = new ArrayList<>();
            looks = new ArrayList<>();
            claims = new ArrayList<>();
            fines = new ArrayList<>();
            trades = new ArrayList<>();
            lots = new ArrayList<>();
            drawn = new ArrayList<>();
            counted = new ArrayList<>();
        }

        // ---- texts

        static List<Token> tokensOf(String text) {
            List<Token> tokens = new ArrayList<>();
            int at = 0;
            while (at < text.length()) {
                char c = text.charAt(at);
                Matcher m = TOKENS.matcher(text);
                m.region(at, text.length());
                if (c == ' ' || c == '\n') {
                    at++;
                } else if (m.lookingAt()) {
                    tokens.add(new Token(m.group(), at));
                    at = m.end();
                } else {
                    tokens.add(new Token("?", at));
                    at++;
                }
            }
            return tokens;
        }

        private static boolean isNumber(String t) {
            return !t.isEmpty() && Character.isDigit(t.charAt(0));
        }

        private static boolean outside(String number, int least, int most) {
            BigInteger n = new BigInteger(number);
            return n.compareTo(BigInteger.valueOf(least)) < 0 || n.compareTo(BigInteger.valueOf(most)) > 0;
        }

        private enum Mode { CLAUSE, TOLD, STOP, OPERAND, BRACKET, OPERATOR }

        /** Fault and place, by modes and what is open: ( m M (of min, max: ahead of and behind the comma) n -. */
        static int[] faultOf(String text) {
            List<Token> tokens = new ArrayList<>(tokensOf(text));
            tokens.add(new Token("", text.length()));
            Deque<Character> open = new ArrayDeque<>();
            Set<String> seen = new HashSet<>();
            Mode mode = Mode.CLAUSE;
            String kind = "";
            int clauses = 0;
            boolean related = false;
            boolean askBegins = false;
            for (Token token : tokens) {
                String t = token.text();
                boolean either = EITHERS.contains(kind);
                boolean inBrackets = open.contains('(') || open.contains('m') || open.contains('M');
                int bad = 0;
                switch (mode) {
                    case CLAUSE -> {
                        if (t.isEmpty()) {
                            return new int[] {0, -1};
                        }
                        if (!TOLD.containsKey(t) && !SUMS.contains(t) && !EITHERS.contains(t)) {
                            bad = 1;
                        } else if (!EITHERS.contains(t) && !seen.add(t)) {
                            bad = 4;
                        } else if (++clauses > 20) {
                            bad = 5;
                        }
                        kind = t;
                        mode = TOLD.containsKey(t) ? Mode.TOLD : Mode.OPERAND;
                        related = false;
                        askBegins = true;
                        open.clear();
                    }
                    case TOLD -> {
                        if (!isNumber(t)) {
                            bad = 1;
                        } else if (outside(t, TOLD.get(kind)[0], TOLD.get(kind)[1])) {
                            bad = 2;
                        }
                        mode = kind.equals("sort") ? Mode.OPERAND : Mode.STOP;
                    }
                    case STOP -> {
                        bad = t.equals(";") ? 0 : 1;
                        mode = Mode.CLAUSE;
                    }
                    case BRACKET -> {
                        if (!t.equals("(")) {
                            bad = 1;
                        } else if (open.size() >= 8) {
                            bad = 3;
                        }
                        open.push('m');
                        mode = Mode.OPERAND;
                    }
                    case OPERAND -> {
                        boolean done = false;
                        if (isNumber(t)) {
                            bad = outside(t, 0, 9999) ? 2 : 0;
                            done = true;
                        } else if (NAMES.contains(t)) {
                            done = true;
                        } else if (t.equals("min") || t.equals("max")) {
                            mode = Mode.BRACKET;
                        } else if (t.equals("(") || t.equals("-") || (t.equals("not") && either && askBegins)) {
                            bad = open.size() >= 8 ? 3 : 0;
                            open.push(t.charAt(0));
                        } else {
                            bad = 1;
                        }
                        askBegins = t.equals("not");
                        if (done) {
                            mode = Mode.OPERATOR;
                            oneEnds(open);
                        }
                    }
                    case OPERATOR -> {
                        mode = Mode.OPERAND;
                        if (Set.of("+", "-", "*", "/").contains(t)) {
                            askBegins = false;
                        } else if (RELATIONS.contains(t) && either && !related && !inBrackets) {
                            related = true;
                        } else if ((t.equals("and") || t.equals("or")) && related && !inBrackets) {
                            open.clear();
                            related = false;
                            askBegins = true;
                        } else if (t.equals(",") && !open.isEmpty() && open.peek() == 'm') {
                            open.pop();
                            open.push('M');
                        } else if (t.equals(")") && !open.isEmpty() && (open.peek() == '(' || open.peek() == 'M')) {
                            open.pop();
                            oneEnds(open);
                            mode = Mode.OPERATOR;
                        } else if (t.equals(";") && !inBrackets && (related || !either)) {
                            mode = Mode.CLAUSE;
                        } else {
                            bad = 1;
                        }
                    }
                }
                if (bad != 0) {
                    return new int[] {bad, token.place()};
                }
            }
            throw new IllegalStateException("the end stands nowhere but ahead of a clause");
        }

        private static void oneEnds(Deque<Character> open) {
            while (!open.isEmpty() && open.peek() == '-') {
                open.pop();
            }
        }

        static List<List<String>> clausesOf(String text) {
            List<List<String>> clauses = new ArrayList<>();
            List<String> clause = new ArrayList<>();
            for (Token token : tokensOf(text)) {
                if (token.text().equals(";")) {
                    clauses.add(clause);
                    clause = new ArrayList<>();
                } else {
                    clause.add(token.text());
                }
            }
            return clauses;
        }

        private static long limit(long v) {
            return Math.max(-1000000000L, Math.min(1000000000L, v));
        }

        private static int lastAtTop(List<String> t, Set<String> signs, boolean binary) {
            int depth = 0;
            for (int i = t.size() - 1; i > 0; i--) {
                String s = t.get(i);
                depth += s.equals(")") ? 1 : s.equals("(") ? -1 : 0;
                String before = t.get(i - 1);
                boolean behindOne = isNumber(before) || NAMES.contains(before) || before.equals(")");
                if (depth == 0 && signs.contains(s) && (!binary || behindOne)) {
                    return i;
                }
            }
            return -1;
        }

        static long sumOf(List<String> t, Map<String, Integer> names) {
            int at = lastAtTop(t, Set.of("+", "-"), true);
            if (at > 0) {
                long left = sumOf(t.subList(0, at), names);
                long right = sumOf(t.subList(at + 1, t.size()), names);
                return limit(t.get(at).equals("+") ? left + right : left - right);
            }
            at = lastAtTop(t, Set.of("*", "/"), true);
            if (at > 0) {
                long left = sumOf(t.subList(0, at), names);
                long right = sumOf(t.subList(at + 1, t.size()), names);
                return t.get(at).equals("*") ? limit(left * right) : right == 0 ? 0 : left / right;
            }
            String first = t.get(0);
            if (first.equals("-")) {
                return -sumOf(t.subList(1, t.size()), names);
            }
            if (first.equals("(")) {
                return sumOf(t.subList(1, t.size() - 1), names);
            }
            if (first.equals("min") || first.equals("max")) {
                List<String> inner = t.subList(2, t.size() - 1);
                int comma = lastAtTop(inner, Set.of(","), false);
                long left = sumOf(inner.subList(0, comma), names);
                long right = sumOf(inner.subList(comma + 1, inner.size()), names);
                return first.equals("min") ? Math.min(left, right) : Math.max(left, right);
            }
            return isNumber(first) ? Long.parseLong(first) : names.get(first);
        }

        static boolean isSo(List<String> t, Map<String, Integer> names) {
            int at = t.lastIndexOf("or");
            if (at > 0) {
                return isSo(t.subList(0, at), names) | isSo(t.subList(at + 1, t.size()), names);
            }
            at = t.lastIndexOf("and");
            if (at > 0) {
                return isSo(t.subList(0, at), names) & isSo(t.subList(at + 1, t.size()), names);
            }
            if (t.get(0).equals("not")) {
                return !isSo(t.subList(1, t.size()), names);
            }
            for (at = 0; !RELATIONS.contains(t.get(at)); at++) {
                continue;
            }
            long left = sumOf(t.subList(0, at), names);
            long right = sumOf(t.subList(at + 1, t.size()), names);
            return switch (t.get(at)) {
                case "<" -> left < right;
                case "<=" -> left <= right;
                case ">" -> left > right;
                case ">=" -> left >= right;
                case "=" -> left == right;
                default -> left != right;
            };
        }

        // ---- acts and webs

        private static boolean tells(List<List<String>> act, String kind) {
            return act.stream().anyMatch(c -> c.get(0).equals(kind));
        }

        private List<List<String>> actFor(String kind, int d) {
            List<List<String>> found = null;
            for (int[] f : forces) {
                if (f[1] <= d && d <= f[2] && tells(acts.get(f[0]), kind)) {
                    found = acts.get(f[0]);
                }
            }
            return beside != null && tells(beside, kind) ? beside : found;
        }

        private int told(String kind, int d) {
            List<List<String>> act = actFor(kind, d);
            if (act == null) {
                return UNTOLD.get(kind);
            }
            return act.stream().filter(c -> c.get(0).equals(kind)).mapToInt(c -> Integer.parseInt(c.get(1))).sum();
        }

        private int[] measuresOf(int web, int d, int k) {
            int[] found = null;
            for (int[] m : measures) {
                if (m[0] == web && m[1] <= d && m[6] <= k && (found == null || m[1] >= found[1])) {
                    found = m;
                }
            }
            return found;
        }

        /** Null without measures; "sort" is as in clauses of sort yet. */
        private Map<String, Integer> boardOf(int web, int d, int k) {
            int[] m = measuresOf(web, d, k);
            if (m == null) {
                return null;
            }
            int town = persons.get(webs.get(web))[0];
            int inch = towns.get(town);
            int width = m[2] * inch / 100;
            int shrink = told("shrink", d);
            for (int w = 0; w < m[5]; w++) {
                width = width - width * shrink / 100;
            }
            Map<String, Integer> names = new HashMap<>();
            names.put("width", width);
            names.put("count", m[3] * 100 / inch);
            names.put("length", m[4]);
            names.put("weeks", m[5]);
            names.put("town", town);
            names.put("day", d);
            names.put("sort", 0);
            return names;
        }

        private int sortOf(int web, int d, int k) {
            Map<String, Integer> names = boardOf(web, d, k);
            List<List<String>> act = actFor("sort", d);
            if (act != null) {
                for (List<String> c : act) {
                    if (c.get(0).equals("sort") && isSo(c.subList(2, c.size()), names)) {
                        return Integer.parseInt(c.get(1));
                    }
                }
            }
            return -1;
        }

        private Map<String, Integer> sortedBoard(int web, int d, int k) {
            Map<String, Integer> names = boardOf(web, d, k);
            int sort = sortOf(web, d, k);
            names.put("sort", sort == -1 ? 10 : sort);
            return names;
        }

        private int lacks(int web, int d, int k) {
            List<List<String>> act = actFor("seal", d);
            if (act != null) {
                for (int i = 0; i < act.size(); i++) {
                    List<String> c = act.get(i);
                    if (c.get(0).equals("seal") && !isSo(c.subList(1, c.size()), sortedBoard(web, d, k))) {
                        return i;
                    }
                }
            }
            return -1;
        }

        private int amount(String kind, int web, int d, int k) {
            List<List<String>> act = actFor(kind, d);
            if (act != null) {
                for (List<String> c : act) {
                    if (c.get(0).equals(kind)) {
                        return (int) Math.max(0, sumOf(c.subList(1, c.size()), sortedBoard(web, d, k)));
                    }
                }
            }
            return 0;
        }

        private boolean forged(int[] s) {
            int flaws = 0;
            for (int f = 0; f < 16; f++) {
                int from = dies.get(s[0])[1 + f];
                if (from >= 0 && from <= s[2]) {
                    flaws += 1 << f;
                }
            }
            return flaws != s[3];
        }

        private boolean good(int[] s) {
            return !forged(s) && lacks(s[1], s[2], day) == -1;
        }

        private boolean hasGoodSeal(int web) {
            return seals.stream().anyMatch(s -> s[1] == web && good(s));
        }

        private int needOf(int web) {
            Map<String, Integer> b = boardOf(web, day, day);
            return b == null ? 0 : b.get("width") * b.get("length") * b.get("count") / 1000 + 1;
        }

        // ---- yarn

        private boolean can(List<Integer> kept) {
            int n = persons.size();
            int[][] room = new int[n + 2][n + 2];
            int yield = told("yield", day);
            int total = 0;
            for (int p = 0; p < n; p++) {
                room[n][p] = persons.get(p)[2] * yield;
            }
            for (int[] t : trades) {
                room[t[0]][t[1]] += t[2];
            }
            for (int web : kept) {
                room[webs.get(web)][n + 1] += needOf(web);
                total += needOf(web);
            }
            int flow = 0;
            int more = 1;
            while (more > 0) {
                more = push(room, n, n + 1, Integer.MAX_VALUE, new boolean[n + 2]);
                flow += more;
            }
            if (n <= 6 && (flow == total) != noCut(kept)) {
                throw new IllegalStateException("the model's flow and its cuts differ");
            }
            return flow == total;
        }

        private static int push(int[][] room, int at, int to, int most, boolean[] seen) {
            if (at == to) {
                return most;
            }
            seen[at] = true;
            for (int next = 0; next < room.length; next++) {
                if (!seen[next] && room[at][next] > 0) {
                    int got = push(room, next, to, Math.min(most, room[at][next]), seen);
                    if (got > 0) {
                        room[at][next] -= got;
                        room[next][at] += got;
                        return got;
                    }
                }
            }
            return 0;
        }

        private boolean noCut(List<Integer> kept) {
            for (int set = 0; set < 1 << persons.size(); set++) {
                if (isProof(kept, set)) {
                    return false;
                }
            }
            return true;
        }

        private boolean isProof(List<Integer> kept, int set) {
            long have = 0;
            long need = 0;
            for (int p = 0; p < persons.size(); p++) {
                have += (set >> p & 1) * persons.get(p)[2] * told("yield", day);
            }
            for (int[] t : trades) {
                if ((set >> t[1] & 1) == 1 && (set >> t[0] & 1) == 0) {
                    have += t[2];
                }
            }
            for (int web : kept) {
                need += (set >> webs.get(web) & 1) * needOf(web);
            }
            return have < need;
        }

        /** Bit i: web a + i is left out. */
        private int doubted(int a, int b) {
            int n = b - a + 1;
            int best = -1;
            int bestLength = Integer.MAX_VALUE;
            for (int mask = 0; mask < 1 << n; mask++) {
                List<Integer> kept = new ArrayList<>();
                int length = 0;
                for (int i = 0; i < n; i++) {
                    // The first web is the highest bit, so that rising masks are in order.
                    if ((mask >> (n - 1 - i) & 1) == 0) {
                        kept.add(a + i);
                    } else {
                        length += lengthOf(a + i);
                    }
                }
                if (length < bestLength && can(kept)) {
                    best = mask;
                    bestLength = length;
                }
            }
            int left = 0;
            for (int i = 0; i < n; i++) {
                left |= (best >> (n - 1 - i) & 1) << i;
            }
            return left;
        }

        private int lengthOf(int web) {
            int[] m = measuresOf(web, day, day);
            return m == null ? 0 : m[4];
        }

        private static List<Integer> mixed(List<Integer> things, int seed) {
            List<Integer> row = new ArrayList<>(things);
            long s = seed & 0xffffffffL;
            for (int i = 0; i < row.size(); i++) {
                s = (s * 1103515245L + 12345L) % 4294967296L;
                int j = i + (int) (s / 65536 % (row.size() - i));
                int kept = row.get(i);
                row.set(i, row.get(j));
                row.set(j, kept);
            }
            return row;
        }

        private static List<Integer> upTo(int n) {
            List<Integer> row = new ArrayList<>();
            for (int i = 0; i < n; i++) {
                row.add(i);
            }
            return row;
        }

        private boolean mayWin(int person) {
            List<List<String>> act = actFor("prize", day);
            Map<String, Integer> names = new HashMap<>();
            NAMES.forEach(name -> names.put(name, 0));
            names.put("town", persons.get(person)[0]);
            names.put("day", day);
            return act == null || act.stream()
                .anyMatch(c -> c.get(0).equals("prize") && isSo(c.subList(1, c.size()), names));
        }

        private static boolean in(int v, int least, int most) {
            return v >= least && v <= most;
        }

        private static boolean has(List<?> list, int i) {
            return i >= 0 && i < list.size();
        }

        private static int added(List<int[]> list, int... row) {
            list.add(row);
            return list.size() - 1;
        }

        // ---- the calls

        long call(String name, int[] a) {
            if (name.equals("image")) {
                image = new ArrayList<>(log);
                return day;
            }
            if (name.equals("back")) {
                List<Done> calls = image;
                clear();
                log = new ArrayList<>();
                for (Done d : calls) {
                    if (d.text() != null) {
                        acts.add(clausesOf(d.text()));
                        log.add(d);
                    } else {
                        call(d.name(), d.args());
                    }
                }
                return day;
            }
            if (Set.of("feed", "end", "act", "fault").contains(name)) {
                return callOfTape(name, a);
            }
            if (!Set.of("board", "sum", "says", "doubt", "proof", "prize", "way", "tried", "kind").contains(name)) {
                log.add(new Done(name, a, null));
            }
            return a.length < 4 ? shortCall(name, a) : longCall(name, a);
        }

        private long callOfTape(String name, int[] a) {
            switch (name) {
                case "feed":
                    if (tape.length() + 20 > 300) {
                        return -1;
                    }
                    StringBuilder more = new StringBuilder(tape);
                    for (int v : a) {
                        more.append((char) (v >>> 24)).append((char) (v >>> 16 & 255)).append((char) (v >>> 8 & 255))
                            .append((char) (v & 255));
                    }
                    tape = more.toString();
                    return tape.length();
                case "end":
                    if (!in(a[0], 0, tape.length())) {
                        return -1;
                    }
                    tape = tape.substring(0, a[0]);
                    return a[0];
                case "act":
                    if (acts.size() == 10) {
                        return -1;
                    }
                    String text = tape;
                    tape = "";
                    int[] found = faultOf(text);
                    fault = found[0];
                    place = found[1];
                    if (fault != 0) {
                        return -1;
                    }
                    acts.add(clausesOf(text));
                    log.add(new Done(null, null, text));
                    return acts.size() - 1;
                default:
                    return a[0] == 0 ? fault : a[0] == 1 ? place : -1;
            }
        }

        private long longCall(String name, int[] a) {
            switch (name) {
                case "measure":
                    if (!has(webs, a[0]) || !in(a[1], 0, 999) || !in(a[2], 1, 200) || !in(a[3], 1, 99)
                            || !in(a[4], 1, 60) || !in(a[5], 0, 20) || measures.size() == 200) {
                        return -1;
                    }
                    return added(measures, a[0], a[1], a[2], a[3], a[4], a[5], day) + 1;
                case "board":
                    if (!has(webs, a[0]) || !in(a[1], 0, 999) || !in(a[2], 0, 999) || !in(a[3], 0, 5)
                            || measuresOf(a[0], a[1], a[2]) == null) {
                        return -2;
                    }
                    if (a[3] == 4) {
                        return sortOf(a[0], a[1], a[2]);
                    }
                    return a[3] == 5 ? lacks(a[0], a[1], a[2])
                        : boardOf(a[0], a[1], a[2]).get(List.of("width", "count", "length", "weeks").get(a[3]));
                case "sum":
                    if (!has(webs, a[0]) || !in(a[1], 0, 999) || !in(a[2], 0, 999) || !in(a[3], 0, 2)
                            || measuresOf(a[0], a[1], a[2]) == null) {
                        return -1;
                    }
                    return amount(List.of("fee", "bounty", "fine").get(a[3]), a[0], a[1], a[2]);
                case "fined":
                    return fined(a);
                default:
                    throw new IllegalStateException(name);
            }
        }

        private long fined(int[] a) {
            boolean fit = has(seals, a[0]);
            int all = 0;
            for (int i = 0; i < 3; i++) {
                fit = fit && has(persons, a[1 + i]) && in(a[4 + i], 0, 9);
                all += a[4 + i];
            }
            if (!fit || all == 0) {
                return -1;
            }
            int[] s = seals.get(a[0]);
            if (s[4] == 1 || good(s)) {
                return -1;
            }
            s[4] = 1;
            int fine = amount("fine", s[1], day, day);
            long left = fine;
            for (int i = 0; i < 3; i++) {
                long part = (long) fine * a[4 + i] / all;
                added(fines, a[1 + i], (int) part);
                left -= part;
            }
            added(fines, a[1], (int) left);
            return fine;
        }

        private long shortCall(String name, int[] a) {
            switch (name) {
                case "town":
                    if (!in(a[0], 80, 120) || towns.size() == 6) {
                        return -1;
                    }
                    towns.add(a[0]);
                    return towns.size() - 1;
                case "person":
                    if (!has(towns, a[0]) || !in(a[1], 0, 9) || persons.size() == 30) {
                        return -1;
                    }
                    return added(persons, a[0], a[1], 0);
                case "die":
                    if (!has(persons, a[0]) || dies.size() == 10) {
                        return -1;
                    }
                    int[] die = new int[17];
                    Arrays.fill(die, -1);
                    die[0] = a[0];
                    return added(dies, die);
                case "flaw":
                    if (!has(dies, a[0]) || !in(a[1], 0, 15) || !in(a[2], 0, day) || dies.get(a[0])[1 + a[1]] >= 0) {
                        return 0;
                    }
                    dies.get(a[0])[1 + a[1]] = a[2];
                    return 1;
                case "web":
                    if (!has(persons, a[0]) || webs.size() == 50) {
                        return -1;
                    }
                    webs.add(a[0]);
                    return webs.size() - 1;
                case "days":
                    if (!in(a[0], 1, 200) || day + a[0] > 999) {
                        return -1;
                    }
                    day += a[0];
                    return day;
                case "force":
                    if (!has(acts, a[0]) || a[1] < day || a[1] > a[2] || a[2] > 999 || forces.size() == 30) {
                        return -1;
                    }
                    return added(forces, a[0], a[1], a[2]);
                case "says":
                    if (!in(a[0], 0, 999) || !in(a[1], 0, 3)) {
                        return -1;
                    }
                    return told(List.of("shrink", "yield", "hank", "level").get(a[1]), a[0]);
                case "market":
                    if (!in(a[0], 0, 99) || !in(a[1], 0, 99) || !in(a[2], 0, 9999)) {
                        return 0;
                    }
                    out = a[0];
                    home = a[1];
                    round = a[2];
                    return 1;
                case "tried":
                    return tried(a[0], a[1]);
                case "about":
                    int[] all = {day, towns.size(), persons.size(), dies.size(), webs.size(), measures.size(),
                        acts.size(), forces.size(), seals.size(), looks.size(), claims.size(), trades.size(),
                        lots.size(), tape.length(), allow};
                    return in(a[0], 0, 14) ? all[a[0]] : -1;
                default:
                    return sealCall(name, a);
            }
        }

        private long sealCall(String name, int[] a) {
            switch (name) {
                case "seal":
                    if (!has(dies, a[0]) || !has(webs, a[1]) || !in(a[2], 0, 65535) || seals.size() == 80
                            || measuresOf(a[1], day, day) == null) {
                        return -1;
                    }
                    return added(seals, a[0], a[1], day, a[2], 0);
                case "sealOf":
                    if (!has(seals, a[0]) || !in(a[1], 0, 5)) {
                        return -1;
                    }
                    int[] s = seals.get(a[0]);
                    return a[1] < 3 ? s[a[1]] : a[1] == 3 ? (forged(s) ? 1 : 0) : a[1] == 4 ? (good(s) ? 1 : 0) : s[4];
                case "look":
                    if (!has(seals, a[0]) || looks.size() == 200) {
                        return -1;
                    }
                    int bad = good(seals.get(a[0])) ? 0 : 1;
                    added(looks, dies.get(seals.get(a[0])[0])[0], bad);
                    return bad;
                case "allow":
                    allow = in(a[0], 0, 9) ? a[0] : allow;
                    return in(a[0], 0, 9) ? 1 : 0;
                case "kind":
                    return kind(a[0], a[1]);
                case "claim":
                    return claim(a[0]);
                case "claimOf":
                    return has(claims, a[0]) && in(a[1], 0, 3) ? claims.get(a[0])[a[1]] : -1;
                case "undo":
                    if (!has(claims, a[0]) || claims.get(a[0])[2] == -1 || claims.get(a[0])[3] != -1) {
                        return 0;
                    }
                    claims.get(a[0])[3] = day;
                    return 1;
                case "book":
                    return book(a[0]);
                default:
                    return yarnCall(name, a);
            }
        }

        private long kind(int person, int what) {
            if (!has(persons, person) || !in(what, 0, 3)) {
                return -1;
            }
            List<int[]> mine = looks.stream().filter(l -> l[0] == person).toList();
            mine = mine.subList(Math.max(0, mine.size() - 12), mine.size());
            int n = mine.size();
            int k = mine.stream().mapToInt(l -> l[1]).sum();
            // Each look's chances one behind the other: row[j] of 10 to the i ways have j bad ones.
            BigInteger[] row = new BigInteger[n + 2];
            Arrays.fill(row, BigInteger.ZERO);
            row[0] = BigInteger.ONE;
            for (int i = 0; i < n; i++) {
                for (int j = i + 1; j >= 0; j--) {
                    BigInteger less = j > 0 ? row[j - 1].multiply(BigInteger.valueOf(allow)) : BigInteger.ZERO;
                    row[j] = row[j].multiply(BigInteger.valueOf(10 - allow)).add(less);
                }
            }
            BigInteger chance = BigInteger.ZERO;
            for (int j = k; j <= n; j++) {
                chance = chance.add(row[j]);
            }
            BigInteger level = BigInteger.TEN.pow(n).multiply(BigInteger.valueOf(told("level", day)));
            boolean tooKind = n > 0 && chance.multiply(BigInteger.valueOf(100)).compareTo(level) < 0;
            return what == 0 ? n : what == 1 ? k : what == 2 ? chance.longValueExact() : tooKind ? 1 : 0;
        }

        private long claim(int web) {
            if (!has(webs, web) || claims.size() == 80) {
                return -1;
            }
            boolean paid = hasGoodSeal(web) && claims.stream().noneMatch(c -> c[0] == web && c[2] >= 0 && c[3] == -1);
            int money = paid ? Math.max(0, amount("bounty", web, day, day) - amount("fee", web, day, day)) : -1;
            return added(claims, web, day, money, -1);
        }

        private long book(int what) {
            if (what == 0 || what == 1) {
                return claims.stream().filter(c -> c[2] >= 0 && (c[3] == -1) == (what == 0)).mapToLong(c -> c[2]).sum();
            }
            if (what != 2 && (what < 10 || !has(persons, what - 10))) {
                return -1;
            }
            return fines.stream().filter(f -> what == 2 || f[0] == what - 10).mapToLong(f -> f[1]).sum();
        }

        private long tried(int act, int what) {
            if (act < -1 || act >= acts.size() || !in(what, 0, 2)) {
                return -1;
            }
            long together = 0;
            for (int web = 0; web < webs.size(); web++) {
                if (hasGoodSeal(web)) {
                    beside = act == -1 ? null : acts.get(act);
                    long bounty = amount("bounty", web, day, day);
                    long gain = bounty - amount("fee", web, day, day);
                    beside = null;
                    boolean shipped = gain + (long) out * lengthOf(web) >= (long) home * lengthOf(web);
                    together += what == 2 ? (bounty > round ? 1 : 0) : !shipped ? 0 : what == 0 ? 1 : Math.max(0, gain);
                }
            }
            return together;
        }

        private long yarnCall(String name, int[] a) {
            switch (name) {
                case "seed":
                    if (!has(persons, a[0]) || !in(a[1], 0, 99)) {
                        return 0;
                    }
                    persons.get(a[0])[2] = a[1];
                    return 1;
                case "trade":
                    if (!has(persons, a[0]) || !has(persons, a[1]) || a[0] == a[1] || !in(a[2], 0, 9999)
                            || trades.size() == 40) {
                        return -1;
                    }
                    return added(trades, a[0], a[1], a[2]);
                case "need":
                    return has(webs, a[0]) ? needOf(a[0]) : -1;
                case "doubt":
                    if (!has(webs, a[0]) || !has(webs, a[1]) || a[0] > a[1] || a[1] - a[0] > 9
                            || (a[2] != -1 && !in(a[2], a[0], a[1]))) {
                        return -1;
                    }
                    int left = doubted(a[0], a[1]);
                    int length = 0;
                    for (int web = a[0]; web <= a[1]; web++) {
                        length += (left >> (web - a[0]) & 1) * lengthOf(web);
                    }
                    return a[2] == -1 ? length : left >> (a[2] - a[0]) & 1;
                case "proof":
                    if (!has(webs, a[0]) || !has(webs, a[1]) || a[0] > a[1] || a[1] - a[0] > 9
                            || a[2] < 0 || a[2] >= 1L << persons.size()) {
                        return -1;
                    }
                    List<Integer> span = upTo(webs.size()).subList(a[0], a[1] + 1);
                    return isProof(span, a[2]) ? 1 : 0;
                default:
                    return drawCall(name, a);
            }
        }

        private long drawCall(String name, int[] a) {
            switch (name) {
                case "prize":
                    List<Integer> winners = new ArrayList<>();
                    Set<Integer> kins = new HashSet<>();
                    for (int p : mixed(upTo(persons.size()).stream().filter(this::mayWin).toList(), a[1])) {
                        if (winners.size() < a[0] && kins.add(persons.get(p)[1])) {
                            winners.add(p);
                        }
                    }
                    return in(a[0], 1, 30) && has(winners, a[2]) ? winners.get(a[2]) : -1;
                case "way":
                    return has(towns, a[1]) ? mixed(upTo(towns.size()), a[0]).get(a[1]) : -1;
                case "lot":
                    if (!in(a[0], 1, 40) || lots.size() == 10) {
                        return -1;
                    }
                    drawn.add(new int[0]);
                    counted.add(new HashMap<>());
                    return added(lots, a[0], 0);
                case "draw":
                    if (!has(lots, a[0]) || !in(a[1], 1, lots.get(a[0])[0]) || drawn.get(a[0]).length > 0) {
                        return 0;
                    }
                    drawn.set(a[0], mixed(upTo(lots.get(a[0])[0]), a[2]).stream().limit(a[1]).mapToInt(h -> h).toArray());
                    lots.get(a[0])[1] = told("hank", day);
                    return 1;
                case "count":
                    if (!has(lots, a[0]) || !in(a[2], 0, lots.get(a[0])[1])
                            || Arrays.stream(drawn.get(a[0])).noneMatch(h -> h == a[1])) {
                        return 0;
                    }
                    counted.get(a[0]).put(a[1], a[2]);
                    return 1;
                case "lotOf":
                    if (!has(lots, a[0])) {
                        return -1;
                    }
                    int[] four = {lots.get(a[0])[0], drawn.get(a[0]).length, counted.get(a[0]).size(), threads(a[0])};
                    return in(a[1], 0, 3) ? four[a[1]]
                        : in(a[1], 100, 99 + four[1]) ? drawn.get(a[0])[a[1] - 100] : -1;
                case "judge":
                    if (!has(lots, a[0]) || drawn.get(a[0]).length == 0 || !in(a[1], 0, 9999)) {
                        return -1;
                    }
                    int all = lots.get(a[0])[0] * lots.get(a[0])[1] - threads(a[0]);
                    int others = lots.get(a[0])[0] - counted.get(a[0]).size();
                    return all - others * lots.get(a[0])[1] > a[1] ? 2 : all <= a[1] ? 0 : 1;
                default:
                    throw new IllegalStateException(name);
            }
        }

        private int threads(int lot) {
            return counted.get(lot).values().stream().mapToInt(t -> t).sum();
        }
    }

    // ---- random runs

    private static final class Run {
        private final Random random;
        private final Model model = new Model();
        private final LinenBoard board = new LinenBoard();
        private final Map<String, Method> methods = new HashMap<>();
        private final List<String> told = new ArrayList<>();
        private final boolean strange;
        int calls = 0;
        boolean wrong = false;

        Run(long seed) {
            random = new Random(seed);
            strange = random.nextInt(4) == 0;
            for (Method m : LinenBoard.class.getDeclaredMethods()) {
                if (java.lang.reflect.Modifier.isPublic(m.getModifiers())) {
                    methods.put(m.getName(), m);
                }
            }
        }

        private long ask(String name, int... args) {
            if (calls >= 512 || wrong) {
                return -1;
            }
            calls++;
            long want = model.call(name, args.clone());
            long got;
            try {
                Object[] boxed = new Object[args.length];
                for (int i = 0; i < args.length; i++) {
                    boxed[i] = args[i];
                }
                Object answer = methods.get(name).invoke(board, boxed);
                got = answer instanceof Boolean b ? (b ? 1 : 0) : ((Number) answer).longValue();
            } catch (ReflectiveOperationException e) {
                throw new IllegalStateException(name + Arrays.toString(args), e);
            }
            told.add(name + Arrays.toString(args) + " = " + got);
            if (got != want) {
                wrong = true;
                System.out.println("due is " + want + " at the end of:");
                told.forEach(System.out::println);
            }
            return got;
        }

        private int pick(int least, int most) {
            if (strange && random.nextInt(12) == 0) {
                int[] edges = {least - 1, most + 1, -1, Integer.MIN_VALUE, Integer.MAX_VALUE, random.nextInt(), least, most};
                return edges[random.nextInt(edges.length)];
            }
            return most < least || most - (long) least > 100000 ? least : least + random.nextInt(most - least + 1);
        }

        /** One of a list of so many, seldom one beyond. */
        private int one(List<?> list) {
            return pick(0, random.nextInt(20) == 0 ? list.size() : Math.max(0, list.size() - 1));
        }

        private String name() {
            String[] names = {"width", "count", "length", "weeks", "town", "sort", "day"};
            return names[random.nextInt(names.length)];
        }

        private String number() {
            int[] scales = {4, 12, 60, 300, 10000};
            return Integer.toString(random.nextInt(scales[random.nextInt(scales.length)]));
        }

        private String blank() {
            return random.nextInt(8) == 0 ? (random.nextBoolean() ? " " : "\n") : "";
        }

        private String sum(int depth) {
            StringBuilder s = new StringBuilder(single(depth));
            while (random.nextInt(3) == 0) {
                s.append(blank()).append("+-*/".charAt(random.nextInt(4))).append(blank()).append(single(depth));
            }
            return s.toString();
        }

        private String single(int depth) {
            int way = random.nextInt(depth > 3 ? 6 : 10);
            if (way < 3) {
                return number();
            }
            if (way < 6) {
                return name();
            }
            if (way == 6) {
                return "-" + single(depth + 1);
            }
            if (way == 7) {
                return "(" + sum(depth + 1) + ")";
            }
            return (way == 8 ? "min" : "max") + blank() + "(" + sum(depth + 1) + "," + sum(depth + 1) + ")";
        }

        private String either() {
            StringBuilder s = new StringBuilder(condition());
            while (random.nextInt(4) == 0) {
                s.append(random.nextBoolean() ? " and " : " or ").append(condition());
            }
            return s.toString();
        }

        private String condition() {
            String[] relations = {"<", "<=", ">", ">=", "=", "#"};
            String not = random.nextInt(6) == 0 ? "not " : "";
            String left = random.nextInt(3) == 0 ? sum(1) : name();
            String right = random.nextInt(3) == 0 ? sum(1) : number();
            return not + left + blank() + relations[random.nextInt(6)] + blank() + right;
        }

        private String clause() {
            String[] told = {"shrink", "yield", "hank", "level"};
            int way = random.nextInt(12);
            if (way < 3) {
                return "sort " + random.nextInt(10) + " " + either() + ";";
            }
            if (way < 5) {
                return "seal " + either() + ";";
            }
            if (way < 6) {
                return "prize " + either() + ";";
            }
            if (way < 9) {
                return new String[] {"fee ", "bounty ", "fine "}[way - 6] + sum(0) + ";";
            }
            String kind = told[random.nextInt(4)];
            int[] range = Model.TOLD.get(kind);
            return kind + " " + (range[0] + random.nextInt(range[1] - range[0] + 1)) + ";";
        }

        private String text() {
            StringBuilder s = new StringBuilder();
            Set<String> once = new HashSet<>();
            int most = random.nextInt(8) == 0 ? 25 : 1 + random.nextInt(9);
            for (int i = 0; i < most; i++) {
                String clause = most == 25 ? "seal " + random.nextInt(3) + "<2;" : clause();
                String kind = clause.substring(0, clause.indexOf(' '));
                boolean again = !Model.EITHERS.contains(kind) && !once.add(kind);
                if ((!again || random.nextInt(20) == 0) && s.length() + clause.length() <= 300) {
                    s.append(blank()).append(clause);
                }
            }
            for (int i = random.nextInt(10) - 7; i > 0 && s.length() > 0; i--) {
                spoil(s);
            }
            s.setLength(Math.min(300, s.length()));
            return s.toString();
        }

        private void spoil(StringBuilder s) {
            String[] bits = {"(", ")", "-", "not ", ";", ",", "and", "9", "min(", "<", "=", "A", "\t", "fee", "99999", " "};
            int at = random.nextInt(s.length());
            switch (random.nextInt(4)) {
                case 0 -> s.deleteCharAt(at);
                case 1 -> s.setCharAt(at, (char) random.nextInt(256));
                case 2 -> s.insert(at, bits[random.nextInt(bits.length)]);
                default -> {
                    // Ahead of a name, where most of these can stand.
                    int sign = Math.max(s.lastIndexOf("width"), s.lastIndexOf("length"));
                    String bit = new String[] {"(", "-", "not ", "min("}[random.nextInt(4)];
                    for (int i = random.nextInt(12); i > 0; i--) {
                        s.insert(Math.max(0, sign), bit);
                    }
                }
            }
        }

        private void enact() {
            String text = text();
            ask("end", 0);
            for (int from = 0; from < text.length(); from += 20) {
                int[] five = new int[5];
                for (int i = 0; i < 20; i++) {
                    int c = from + i < text.length() ? text.charAt(from + i) : random.nextInt(256);
                    five[i / 4] = five[i / 4] << 8 | c;
                }
                ask("feed", five);
            }
            ask("end", text.length());
            long act = ask("act");
            ask("fault", pick(0, 1));
            ask("fault", 1);
            if (act >= 0 && random.nextInt(6) != 0) {
                int from = model.day + random.nextInt(4);
                ask("force", (int) act, from, random.nextInt(3) == 0 ? from + random.nextInt(5) : pick(from, 999));
            }
        }

        private int aDay() {
            return random.nextInt(4) == 0 ? pick(0, 999) : pick(Math.max(0, model.day - 5), Math.min(999, model.day + 3));
        }

        private void settle() {
            int towns = 1 + random.nextInt(4);
            int persons = 1 + random.nextInt(random.nextInt(5) == 0 ? 30 : 6);
            for (int i = 0; i < towns; i++) {
                ask("town", pick(80, 120));
            }
            for (int i = 0; i < persons; i++) {
                ask("person", one(model.towns), pick(0, random.nextBoolean() ? 2 : 9));
            }
            for (int i = random.nextInt(4); i >= 0; i--) {
                ask("die", one(model.persons));
            }
            for (int i = random.nextInt(12); i >= 0; i--) {
                ask("web", one(model.persons));
                aMeasure(model.webs.size() - 1);
            }
        }

        private void aMeasure(int web) {
            int from = random.nextInt(3) == 0 ? aDay() : Math.max(0, model.day - random.nextInt(4));
            ask("measure", web, from, pick(1, 200), pick(1, 99), pick(1, 60), random.nextBoolean() ? 0 : pick(0, 20));
        }

        private int rightFlaws(int die) {
            int flaws = 0;
            for (int f = 0; die < model.dies.size() && die >= 0 && f < 16; f++) {
                flaws |= model.dies.get(die)[1 + f] >= 0 ? 1 << f : 0;
            }
            return flaws;
        }

        private void step() {
            switch (random.nextInt(31)) {
                case 0 -> ask("town", pick(80, 120));
                case 1 -> ask("person", one(model.towns), pick(0, 9));
                case 2 -> ask("die", one(model.persons));
                case 3 -> ask("flaw", one(model.dies), pick(0, 15), pick(0, model.day));
                case 4 -> ask("web", one(model.persons));
                case 5, 6 -> aMeasure(one(model.webs));
                case 7 -> ask("days", random.nextInt(8) == 0 ? pick(1, 200) : pick(1, 3));
                case 8 -> enact();
                case 9 -> ask("force", one(model.acts), pick(model.day, model.day + 2), pick(model.day + 1, model.day + 9));
                case 10, 11 -> {
                    int die = one(model.dies);
                    ask("seal", die, one(model.webs), random.nextInt(4) == 0 ? pick(0, 65535) : rightFlaws(die));
                }
                case 12 -> ask("look", one(model.seals));
                case 13 -> ask("allow", pick(0, 9));
                case 14, 15 -> ask("claim", one(model.webs));
                case 16 -> ask("undo", one(model.claims));
                case 17 -> ask("fined", one(model.seals), one(model.persons), one(model.persons), one(model.persons),
                    pick(0, 9), pick(0, 9), pick(0, 9));
                case 18, 19 -> ask("seed", one(model.persons), pick(0, 99));
                case 20, 21 -> ask("trade", one(model.persons), one(model.persons),
                    random.nextBoolean() ? pick(0, 9999) : pick(0, 300));
                case 22 -> ask("lot", pick(1, 40));
                case 23 -> ask("draw", one(model.lots), pick(1, random.nextBoolean() ? 40 : 5), random.nextInt());
                case 24, 25 -> {
                    int lot = one(model.lots);
                    int[] drawn = model.drawn.isEmpty() ? new int[0] : model.drawn.get(lot < 0 ? 0 : lot % model.drawn.size());
                    int hank = drawn.length == 0 || random.nextInt(4) == 0 ? pick(0, 39) : drawn[random.nextInt(drawn.length)];
                    ask("count", lot, hank, random.nextInt(3) == 0 ? pick(0, 500) : pick(0, 100));
                }
                case 26 -> ask("market", pick(0, 99), pick(0, 99), random.nextBoolean() ? pick(0, 9999) : pick(0, 99));
                case 27 -> ask("image");
                case 28 -> {
                    if (random.nextInt(4) == 0) {
                        ask("back");
                    }
                }
                default -> look12();
            }
        }

        private void look12() {
            for (int i = random.nextInt(6); i > 0; i--) {
                ask("look", one(model.seals));
            }
        }

        private void query() {
            switch (random.nextInt(18)) {
                case 0, 1, 2 -> ask("board", one(model.webs), aDay(), aDay(), pick(0, 5));
                case 3, 4 -> ask("sum", one(model.webs), aDay(), aDay(), pick(0, 2));
                case 5 -> ask("says", aDay(), pick(0, 3));
                case 6, 7 -> ask("sealOf", one(model.seals), pick(0, 5));
                case 8 -> ask("kind", one(model.persons), pick(0, 3));
                case 9 -> ask("claimOf", one(model.claims), pick(0, 3));
                case 10 -> ask("book", random.nextBoolean() ? pick(0, 2) : pick(10, 10 + model.persons.size()));
                case 11 -> ask("need", one(model.webs));
                case 12 -> {
                    int a = one(model.webs);
                    int b = random.nextInt(10) == 0 ? one(model.webs) : a + random.nextInt(model.persons.size() < 9 ? 6 : 4);
                    int web = random.nextInt(3) == 0 ? -1 : pick(a, b);
                    ask("doubt", a, b, web);
                    ask("proof", a, b, random.nextInt(8) == 0 ? random.nextInt() : random.nextInt(1 << model.persons.size()));
                }
                case 13 -> ask("prize", pick(1, random.nextBoolean() ? 5 : 30), random.nextInt(), pick(0, 4));
                case 14 -> ask("way", random.nextInt(), pick(0, 6));
                case 15 -> {
                    ask("lotOf", one(model.lots), random.nextBoolean() ? pick(0, 3) : pick(100, 140));
                    ask("judge", one(model.lots), random.nextBoolean() ? pick(0, 9999) : pick(0, 400));
                }
                case 16 -> ask("tried", random.nextInt(3) == 0 ? -1 : one(model.acts), pick(0, 2));
                default -> ask("about", pick(0, 14));
            }
        }

        /** Many trades among few or all persons, and ten webs in doubt. */
        private void weave() {
            int persons = random.nextBoolean() ? 30 : 4 + random.nextInt(5);
            ask("town", pick(80, 120));
            for (int i = 0; i < persons; i++) {
                ask("person", 0, 0);
                ask("seed", i, random.nextInt(3) == 0 ? pick(0, 30) : 0);
            }
            for (int i = 25 + random.nextInt(16); i > 0; i--) {
                ask("trade", one(model.persons), one(model.persons), random.nextInt(3) == 0 ? pick(0, 9999) : pick(0, 90));
            }
            for (int i = 0; i < 10; i++) {
                ask("web", random.nextInt(3) == 0 ? persons - 1 : one(model.persons));
                ask("measure", i, 0, pick(20, 120), pick(20, 60), pick(1, random.nextBoolean() ? 6 : 40), 0);
            }
            for (int web = -1; web < 10; web++) {
                ask("doubt", 0, 9, web);
                ask("proof", 0, 9, random.nextInt() & (1 << persons) - 1);
            }
        }

        boolean go() {
            if (random.nextInt(20) == 0) {
                weave();
                return !wrong;
            }
            if (random.nextInt(10) != 0) {
                settle();
                enact();
                ask("image");
            }
            while (calls < 512 && !wrong) {
                step();
                for (int i = random.nextInt(3); i > 0; i--) {
                    query();
                }
            }
            return !wrong;
        }
    }

    public static void main(String[] args) {
        int runs = Integer.getInteger("runs", 3000);
        long first = Long.getLong("first", 1L);
        long calls = 0;
        for (long seed = first; seed < first + runs; seed++) {
            Run run = new Run(seed);
            if (!run.go()) {
                System.out.println("in the run of seed " + seed);
                System.exit(1);
            }
            calls += run.calls;
        }
        System.out.println(runs + " random runs, " + calls + " answers as due");
    }
}
