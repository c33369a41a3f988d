import java.util.Arrays;

/** A board that seals linen; the project's document says what each call answers. */
public final class LinenBoard {

    public static final int NONE = -1;

    private static final int NOT_ON_THE_BOARD = -2;

    private static final int LAST_DAY = 999;
    private static final int MOST_TOWNS = 6;
    private static final int MOST_PERSONS = 30;
    private static final int MOST_DIES = 10;
    private static final int MOST_FLAWS = 16;
    private static final int MOST_WEBS = 50;
    private static final int MOST_MEASURES = 200;
    private static final int MOST_WEEKS = 20;
    private static final int MOST_ACTS = 10;
    private static final int MOST_CLAUSES = 20;
    private static final int MOST_FORCES = 30;
    private static final int MOST_SEALS = 80;
    private static final int MOST_LOOKS = 200;
    private static final int MOST_CLAIMS = 80;
    private static final int MOST_TRADES = 40;
    private static final int MOST_LOTS = 10;
    private static final int MOST_HANKS = 40;
    private static final int MOST_DOUBTED = 10;
    private static final int MOST_BYTES = 300;
    private static final int MOST_OPEN = 8;
    private static final int BYTES_A_FEED = 20;
    private static final int LATEST_LOOKS = 12;
    private static final int FIRST_PERSONS_FINES = 10;
    private static final int FIRST_DRAWN_HANK = 100;

    // The columns of the ledger's tables.
    private static final int INCH = 0;

    private static final int LIVES_IN = 0;
    private static final int KIN = 1;
    private static final int PECKS = 2;

    private static final int MASTER = 0;
    private static final int FIRST_FLAW = 1;

    private static final int WEAVER = 0;

    private static final int MEASURED_WEB = 0;
    private static final int MEASURED_FROM = 1;
    private static final int TOLD_ON = 2;
    private static final int TOLD_WIDTH = 3;
    private static final int TOLD_COUNT = 4;
    private static final int TOLD_LENGTH = 5;
    private static final int TOLD_WEEKS = 6;

    private static final int FORCED_ACT = 0;
    private static final int FORCED_FROM = 1;
    private static final int FORCED_TO = 2;

    private static final int SEALED_BY = 0;
    private static final int SEALED_WEB = 1;
    private static final int SEALED_ON = 2;
    private static final int SEEN_FLAWS = 3;
    private static final int WAS_FINED = 4;

    private static final int LOOKED_AT_MASTER = 0;
    private static final int WAS_BAD = 1;

    private static final int CLAIMED_WEB = 0;
    private static final int PAID = 2;
    private static final int UNDONE_ON = 3;

    private static final int SHARERS = 3;
    private static final int FIRST_SHARER = 0;
    private static final int FIRST_PART = 3;

    private static final int SELLER = 0;
    private static final int BUYER = 1;
    private static final int POUNDS = 2;

    private static final int HANKS = 0;
    private static final int DRAWN = 1;
    private static final int FULL = 2;
    private static final int FIRST_DRAWN = 3;
    private static final int FIRST_COUNTED = FIRST_DRAWN + MOST_HANKS;
    private static final int LOT_WIDTH = FIRST_COUNTED + MOST_HANKS;

    private static final int CLAUSE_KIND = 0;
    private static final int CLAUSE_NUMBER = 1;
    private static final int CLAUSE_START = 2;
    private static final int CLAUSE_END = 3;

    // Tokens: the words are numbered as they stand in WORDS, the kinds of clauses first.
    private static final int WORD_WIDTH = 6;
    private static final String WORDS = "sort  seal  prize fee   bountyfine  shrinkyield hank  level width count lengthweeks town  day   and   or    not   min   max   ";
    private static final int SORT = 0;
    private static final int SEAL = 1;
    private static final int PRIZE = 2;
    private static final int FEE = 3;
    private static final int BOUNTY = 4;
    private static final int FINE = 5;
    private static final int SHRINK = 6;
    private static final int YIELD = 7;
    private static final int HANK = 8;
    private static final int LEVEL = 9;
    private static final int WIDTH = 10;
    private static final int COUNT = 11;
    private static final int LENGTH = 12;
    private static final int WEEKS = 13;
    private static final int TOWN = 14;
    private static final int DAY = 15;
    private static final int AND = 16;
    private static final int OR = 17;
    private static final int NOT = 18;
    private static final int MIN = 19;
    private static final int MAX = 20;
    private static final int WORD_KINDS = 21;

    // The signs follow the words, as they stand in SIGNS; the two of two bytes follow them.
    private static final String SIGNS = "<>=#+-*/(),;";
    private static final int LESS = 21;
    private static final int MORE = 22;
    private static final int LIKE = 23;
    private static final int UNLIKE = 24;
    private static final int PLUS = 25;
    private static final int MINUS = 26;
    private static final int TIMES = 27;
    private static final int OVER = 28;
    private static final int OPEN = 29;
    private static final int SHUT = 30;
    private static final int COMMA = 31;
    private static final int STOP = 32;
    private static final int LESS_OR_LIKE = 33;
    private static final int MORE_OR_LIKE = 34;
    private static final int NUMBER = 35;
    private static final int END = 36;
    private static final int UNKNOWN = 37;
    private static final int NEGATE = 38;

    // In an act's code a NUMBER stands as itself, any other step as its token above these.
    private static final int LARGEST_NUMBER = 9999;
    private static final int STEPS = 10000;

    private static final long LARGEST_SUM = 1000000000L;
    private static final int SORT_OF_NONE = 10;

    // By kind of clause: the numbers it may tell, and what holds without an act that tells it.
    private static final int[] LEAST_TOLD = {0, 0, 0, 0, 0, 0, 0, 1, 1, 0};
    private static final int[] MOST_TOLD = {9, 0, 0, 0, 0, 0, 20, 99, 500, 100};
    private static final int[] UNTOLD = {0, 0, 0, 0, 0, 0, 0, 10, 100, 5};

    private static final int FAULT_PLACE = 1;
    private static final int FAULT_NUMBER = 2;
    private static final int FAULT_DEPTH = 3;
    private static final int FAULT_TWICE = 4;
    private static final int FAULT_CLAUSES = 5;

    private final Ledger now;
    private final Ledger kept;
    private final Tape tape;
    private final Reader reader;
    private final Bench bench;
    private final Loom loom;
    private final Urn urn;

    public LinenBoard() {
        Ledger ledger = new Ledger();
        Tape bytes = new Tape();
        now = ledger;
        kept = new Ledger();
        tape = bytes;
        reader = new Reader(bytes);
        bench = new Bench(ledger);
        loom = new Loom(ledger);
        urn = new Urn();
    }

    // ---- towns, persons, dies, webs

    public int town(int inch) {
        if (!isWithin(inch, 80, 120)) {
            return NONE;
        }
        return now.towns.add(inch, 0, 0);
    }

    public int person(int town, int kin) {
        if (!now.towns.has(town) || !isWithin(kin, 0, 9)) {
            return NONE;
        }
        return now.persons.add(town, kin, 0);
    }

    public int die(int person) {
        if (!now.persons.has(person)) {
            return NONE;
        }
        int die = now.dies.add(person, 0, 0);
        for (int flaw = 0; flaw < MOST_FLAWS; flaw++) {
            now.dies.set(die, FIRST_FLAW + flaw, NONE);
        }
        return die;
    }

    public boolean flaw(int die, int flaw, int day) {
        if (!now.dies.has(die) || !isWithin(flaw, 0, MOST_FLAWS - 1) || !isWithin(day, 0, now.day)) {
            return false;
        }
        if (now.dies.get(die, FIRST_FLAW + flaw) != NONE) {
            return false;
        }
        now.dies.set(die, FIRST_FLAW + flaw, day);
        return true;
    }

    public int web(int weaver) {
        if (!now.persons.has(weaver)) {
            return NONE;
        }
        return now.webs.add(weaver, 0, 0);
    }

    public int measure(int web, int day, int width, int count, int length, int weeks) {
        if (!now.webs.has(web) || !isDay(day) || now.measures.isFull()) {
            return NONE;
        }
        if (!isWithin(width, 1, 200) || !isWithin(count, 1, 99) || !isWithin(length, 1, 60)
                || !isWithin(weeks, 0, MOST_WEEKS)) {
            return NONE;
        }
        int row = now.measures.add(web, day, now.day);
        now.measures.set(row, TOLD_WIDTH, width);
        now.measures.set(row, TOLD_COUNT, count);
        now.measures.set(row, TOLD_LENGTH, length);
        now.measures.set(row, TOLD_WEEKS, weeks);
        return now.measures.size;
    }

    public int board(int web, int day, int known, int what) {
        if (!now.webs.has(web) || !isDay(day) || !isDay(known) || !isWithin(what, 0, 5)) {
            return NOT_ON_THE_BOARD;
        }
        if (!bench.weigh(web, day, known)) {
            return NOT_ON_THE_BOARD;
        }
        if (what == 4) {
            return bench.sortOfWeb;
        }
        if (what == 5) {
            return bench.firstClause(SEAL, day, false);
        }
        return bench.named(WIDTH + what);
    }

    public int days(int n) {
        if (!isWithin(n, 1, 200) || now.day + n > LAST_DAY) {
            return NONE;
        }
        now.day += n;
        return now.day;
    }

    // ---- acts

    public int feed(int a, int b, int c, int d, int e) {
        if (tape.length + BYTES_A_FEED > MOST_BYTES) {
            return NONE;
        }
        tape.put(a);
        tape.put(b);
        tape.put(c);
        tape.put(d);
        tape.put(e);
        return tape.length;
    }

    public int end(int n) {
        if (!isWithin(n, 0, tape.length)) {
            return NONE;
        }
        tape.length = n;
        return n;
    }

    public int act() {
        if (now.actCount >= MOST_ACTS) {
            return NONE;
        }
        reader.start();
        for (int clause = 0; clause <= MOST_CLAUSES && reader.hasMore(); clause++) {
            reader.readClause();
        }
        tape.length = 0;
        return reader.fault == 0 ? now.enact(reader.draft) : NONE;
    }

    public int fault(int what) {
        if (what == 0) {
            return reader.fault;
        }
        return what == 1 ? reader.faultPlace : NONE;
    }

    public int force(int act, int from, int to) {
        if (now.actAt(act) == null || !isWithin(from, now.day, LAST_DAY) || !isWithin(to, from, LAST_DAY)) {
            return NONE;
        }
        return now.forces.add(act, from, to);
    }

    public int sum(int web, int day, int known, int what) {
        if (!now.webs.has(web) || !isDay(day) || !isDay(known) || !isWithin(what, 0, 2)) {
            return NONE;
        }
        return bench.weigh(web, day, known) ? bench.amount(FEE + what, day) : NONE;
    }

    public int says(int day, int what) {
        if (!isDay(day) || !isWithin(what, 0, 3)) {
            return NONE;
        }
        return bench.told(SHRINK + what, day);
    }

    // ---- seals, and masters who are too kind

    public int seal(int die, int web, int flaws) {
        if (!now.dies.has(die) || !now.webs.has(web) || !isWithin(flaws, 0, 65535)) {
            return NONE;
        }
        if (now.seals.isFull() || bench.latestMeasure(web, now.day, now.day) == NONE) {
            return NONE;
        }
        int seal = now.seals.add(die, web, now.day);
        now.seals.set(seal, SEEN_FLAWS, flaws);
        return seal;
    }

    public int sealOf(int seal, int what) {
        if (!now.seals.has(seal)) {
            return NONE;
        }
        switch (what) {
            case 0:
                return now.seals.get(seal, SEALED_BY);
            case 1:
                return now.seals.get(seal, SEALED_WEB);
            case 2:
                return now.seals.get(seal, SEALED_ON);
            case 3:
                return isForged(seal) ? 1 : 0;
            case 4:
                return isGood(seal) ? 1 : 0;
            case 5:
                return now.seals.get(seal, WAS_FINED);
            default:
                return NONE;
        }
    }

    public int look(int seal) {
        if (!now.seals.has(seal) || now.looks.isFull()) {
            return NONE;
        }
        int bad = isGood(seal) ? 0 : 1;
        int master = now.dies.get(now.seals.get(seal, SEALED_BY), MASTER);
        now.looks.add(master, bad, 0);
        return bad;
    }

    public boolean allow(int v) {
        if (!isWithin(v, 0, 9)) {
            return false;
        }
        now.allow = v;
        return true;
    }

    public long kind(int person, int what) {
        if (!now.persons.has(person) || !isWithin(what, 0, 3)) {
            return NONE;
        }
        int looks = 0;
        int bad = 0;
        for (int look = now.looks.size - 1; look >= 0 && looks < LATEST_LOOKS; look--) {
            if (now.looks.get(look, LOOKED_AT_MASTER) == person) {
                looks++;
                bad += now.looks.get(look, WAS_BAD);
            }
        }
        if (what < 2) {
            return what == 0 ? looks : bad;
        }
        long chance = chanceOf(looks, bad, now.allow);
        if (what == 2) {
            return chance;
        }
        long limit = bench.told(LEVEL, now.day) * power(10, looks);
        return looks > 0 && 100 * chance < limit ? 1 : 0;
    }

    // ---- bounties and fines

    public int claim(int web) {
        if (!now.webs.has(web) || now.claims.isFull()) {
            return NONE;
        }
        int paid = NONE;
        if (!hasPaidClaim(web) && hasGoodSeal(web) && bench.weigh(web, now.day, now.day)) {
            paid = Math.max(0, bench.amount(BOUNTY, now.day) - bench.amount(FEE, now.day));
        }
        int claim = now.claims.add(web, now.day, paid);
        now.claims.set(claim, UNDONE_ON, NONE);
        return claim;
    }

    public int claimOf(int claim, int what) {
        if (!now.claims.has(claim) || !isWithin(what, CLAIMED_WEB, UNDONE_ON)) {
            return NONE;
        }
        // The columns stand in the order in which they are asked for.
        return now.claims.get(claim, what);
    }

    public boolean undo(int claim) {
        if (!now.claims.has(claim) || !isStanding(claim)) {
            return false;
        }
        now.claims.set(claim, UNDONE_ON, now.day);
        return true;
    }

    public int fined(int seal, int x, int y, int z, int a, int b, int c) {
        if (!now.seals.has(seal) || !now.persons.has(x) || !now.persons.has(y) || !now.persons.has(z)) {
            return NONE;
        }
        if (!isWithin(a, 0, 9) || !isWithin(b, 0, 9) || !isWithin(c, 0, 9) || a + b + c == 0) {
            return NONE;
        }
        if (now.seals.get(seal, WAS_FINED) == 1 || isGood(seal)) {
            return NONE;
        }
        if (!bench.weigh(now.seals.get(seal, SEALED_WEB), now.day, now.day)) {
            return NONE;
        }
        int fine = bench.amount(FINE, now.day);
        int second = partOf(fine, b, a + b + c);
        int third = partOf(fine, c, a + b + c);
        now.seals.set(seal, WAS_FINED, 1);
        int row = now.fines.add(x, y, z);
        // What cutting leaves over is the first one's besides, so its part is all but the others'.
        now.fines.set(row, FIRST_PART, fine - second - third);
        now.fines.set(row, FIRST_PART + 1, second);
        now.fines.set(row, FIRST_PART + 2, third);
        return fine;
    }

    public long book(int what) {
        if (what == 0 || what == 1) {
            return sumOfClaims(what == 0);
        }
        if (what == 2) {
            return sumOfFines(NONE);
        }
        if (what < FIRST_PERSONS_FINES || !now.persons.has(what - FIRST_PERSONS_FINES)) {
            return NONE;
        }
        return sumOfFines(what - FIRST_PERSONS_FINES);
    }

    // ---- seed and yarn

    public boolean seed(int person, int pecks) {
        if (!now.persons.has(person) || !isWithin(pecks, 0, 99)) {
            return false;
        }
        now.persons.set(person, PECKS, pecks);
        return true;
    }

    public int trade(int from, int to, int pounds) {
        if (!now.persons.has(from) || !now.persons.has(to) || from == to || !isWithin(pounds, 0, 9999)) {
            return NONE;
        }
        return now.trades.add(from, to, pounds);
    }

    public int need(int web) {
        return now.webs.has(web) ? bench.needOf(web) : NONE;
    }

    public int doubt(int a, int b, int web) {
        if (!isSpan(a, b) || (web != NONE && !isWithin(web, a, b))) {
            return NONE;
        }
        loom.start(bench.told(YIELD, now.day));
        for (int each = a; each <= b; each++) {
            int pounds = bench.needOf(each);
            loom.webs.add(now.webs.get(each, WEAVER), pounds, pounds > 0 ? bench.named(LENGTH) : 0);
        }
        loom.search(0, 0, 0);
        if (web == NONE) {
            return loom.leastLength;
        }
        return loom.leftOut >> (web - a) & 1;
    }

    public int proof(int a, int b, int persons) {
        if (!isSpan(a, b) || persons >> now.persons.size != 0) {
            return NONE;
        }
        int pounds = 0;
        int peckPounds = bench.told(YIELD, now.day);
        for (int person = 0; person < now.persons.size; person++) {
            if (holds(persons, person)) {
                pounds += now.persons.get(person, PECKS) * peckPounds;
            }
        }
        for (int trade = 0; trade < now.trades.size; trade++) {
            if (holds(persons, now.trades.get(trade, BUYER)) && !holds(persons, now.trades.get(trade, SELLER))) {
                pounds += now.trades.get(trade, POUNDS);
            }
        }
        int needed = 0;
        for (int web = a; web <= b; web++) {
            if (holds(persons, now.webs.get(web, WEAVER))) {
                needed += bench.needOf(web);
            }
        }
        return pounds < needed ? 1 : 0;
    }

    // ---- draws

    public int prize(int m, int seed, int i) {
        if (!isWithin(m, 1, MOST_PERSONS) || !isWithin(i, 0, m - 1)) {
            return NONE;
        }
        urn.size = 0;
        for (int person = 0; person < now.persons.size; person++) {
            if (bench.mayWin(person)) {
                urn.add(person);
            }
        }
        urn.mix(seed);
        int kins = 0;
        int won = 0;
        for (int place = 0; place < urn.size && won <= i; place++) {
            int person = urn.thingAt(place);
            int kin = now.persons.get(person, KIN);
            if (!holds(kins, kin)) {
                if (won == i) {
                    return person;
                }
                kins |= 1 << kin;
                won++;
            }
        }
        return NONE;
    }

    public int way(int seed, int i) {
        urn.fill(now.towns.size);
        urn.mix(seed);
        return urn.thingAt(i);
    }

    public int lot(int n) {
        if (!isWithin(n, 1, MOST_HANKS)) {
            return NONE;
        }
        return now.lots.add(n, 0, 0);
    }

    public boolean draw(int lot, int m, int seed) {
        if (!now.lots.has(lot) || now.lots.get(lot, DRAWN) > 0 || !isWithin(m, 1, now.lots.get(lot, HANKS))) {
            return false;
        }
        urn.fill(now.lots.get(lot, HANKS));
        urn.mix(seed);
        now.lots.set(lot, DRAWN, m);
        now.lots.set(lot, FULL, bench.told(HANK, now.day));
        for (int place = 0; place < m; place++) {
            now.lots.set(lot, FIRST_DRAWN + place, urn.thingAt(place));
            now.lots.set(lot, FIRST_COUNTED + place, NONE);
        }
        return true;
    }

    public boolean count(int lot, int hank, int threads) {
        if (!now.lots.has(lot) || !isWithin(threads, 0, now.lots.get(lot, FULL))) {
            return false;
        }
        int drawn = now.lots.get(lot, DRAWN);
        for (int place = 0; place < drawn; place++) {
            if (now.lots.get(lot, FIRST_DRAWN + place) == hank) {
                now.lots.set(lot, FIRST_COUNTED + place, threads);
                return true;
            }
        }
        return false;
    }

    public int lotOf(int lot, int what) {
        if (!now.lots.has(lot)) {
            return NONE;
        }
        switch (what) {
            case 0:
                return now.lots.get(lot, HANKS);
            case 1:
                return now.lots.get(lot, DRAWN);
            case 2:
                return countedHanks(lot);
            case 3:
                return countedThreads(lot);
            default:
                int last = FIRST_DRAWN_HANK + now.lots.get(lot, DRAWN) - 1;
                if (!isWithin(what, FIRST_DRAWN_HANK, last)) {
                    return NONE;
                }
                return now.lots.get(lot, FIRST_DRAWN + what - FIRST_DRAWN_HANK);
        }
    }

    public int judge(int lot, int allowed) {
        if (!now.lots.has(lot) || now.lots.get(lot, DRAWN) == 0 || !isWithin(allowed, 0, 9999)) {
            return NONE;
        }
        int hanks = now.lots.get(lot, HANKS);
        int full = now.lots.get(lot, FULL);
        int missing = hanks * full - countedThreads(lot);
        if (missing - full * (hanks - countedHanks(lot)) > allowed) {
            return 2;
        }
        return missing > allowed ? 1 : 0;
    }

    // ---- another act tried beside

    public boolean market(int out, int home, int round) {
        if (!isWithin(out, 0, 99) || !isWithin(home, 0, 99) || !isWithin(round, 0, 9999)) {
            return false;
        }
        now.out = out;
        now.home = home;
        now.round = round;
        return true;
    }

    public long tried(int act, int what) {
        Act beside = now.actAt(act);
        if ((act != NONE && beside == null) || !isWithin(what, 0, 2)) {
            return NONE;
        }
        long together = 0;
        for (int web = 0; web < now.webs.size; web++) {
            // The seal is judged by what is in force truly, the money by the act beside.
            if (hasGoodSeal(web)) {
                bench.beside = beside;
                together += triedWeb(web, what);
                bench.beside = null;
            }
        }
        return together;
    }

    // ---- the image

    public int image() {
        kept.copy(now);
        return now.day;
    }

    public int back() {
        now.copy(kept);
        return now.day;
    }

    public int about(int what) {
        switch (what) {
            case 0:
                return now.day;
            case 1:
                return now.towns.size;
            case 2:
                return now.persons.size;
            case 3:
                return now.dies.size;
            case 4:
                return now.webs.size;
            case 5:
                return now.measures.size;
            case 6:
                return now.actCount;
            case 7:
                return now.forces.size;
            case 8:
                return now.seals.size;
            case 9:
                return now.looks.size;
            case 10:
                return now.claims.size;
            case 11:
                return now.trades.size;
            case 12:
                return now.lots.size;
            case 13:
                return tape.length;
            case 14:
                return now.allow;
            default:
                return NONE;
        }
    }

    // ---- what several calls share

    private static boolean isWithin(int value, int least, int most) {
        return value >= least && value <= most;
    }

    private static boolean isDay(int day) {
        return isWithin(day, 0, LAST_DAY);
    }

    private static boolean holds(int set, int member) {
        return isWithin(member, 0, 31) && (set >> member & 1) == 1;
    }

    private boolean isSpan(int first, int last) {
        return now.webs.has(first) && now.webs.has(last) && isWithin(last - first, 0, MOST_DOUBTED - 1);
    }

    private boolean isForged(int seal) {
        int die = now.seals.get(seal, SEALED_BY);
        int day = now.seals.get(seal, SEALED_ON);
        int had = 0;
        for (int flaw = 0; flaw < MOST_FLAWS; flaw++) {
            int from = now.dies.get(die, FIRST_FLAW + flaw);
            if (from != NONE && from <= day) {
                had |= 1 << flaw;
            }
        }
        return had != now.seals.get(seal, SEEN_FLAWS);
    }

    /** Good on the clock's day as known now; no seal is of a later day. */
    private boolean isGood(int seal) {
        int web = now.seals.get(seal, SEALED_WEB);
        int day = now.seals.get(seal, SEALED_ON);
        return !isForged(seal) && bench.weigh(web, day, now.day) && bench.firstClause(SEAL, day, false) == NONE;
    }

    private boolean hasGoodSeal(int web) {
        for (int seal = 0; seal < now.seals.size; seal++) {
            if (now.seals.get(seal, SEALED_WEB) == web && isGood(seal)) {
                return true;
            }
        }
        return false;
    }

    private boolean isStanding(int claim) {
        return now.claims.get(claim, PAID) != NONE && now.claims.get(claim, UNDONE_ON) == NONE;
    }

    private boolean hasPaidClaim(int web) {
        for (int claim = 0; claim < now.claims.size; claim++) {
            if (now.claims.get(claim, CLAIMED_WEB) == web && isStanding(claim)) {
                return true;
            }
        }
        return false;
    }

    private long sumOfClaims(boolean standing) {
        long together = 0;
        for (int claim = 0; claim < now.claims.size; claim++) {
            if (now.claims.get(claim, PAID) != NONE && isStanding(claim) == standing) {
                together += now.claims.get(claim, PAID);
            }
        }
        return together;
    }

    /** The parts of one person, or with NONE of all. */
    private long sumOfFines(int person) {
        long together = 0;
        for (int fine = 0; fine < now.fines.size; fine++) {
            for (int sharer = 0; sharer < SHARERS; sharer++) {
                if (person == NONE || now.fines.get(fine, FIRST_SHARER + sharer) == person) {
                    together += now.fines.get(fine, FIRST_PART + sharer);
                }
            }
        }
        return together;
    }

    private static int partOf(int fine, int share, int shares) {
        return shares > 0 ? (int) ((long) fine * share / shares) : 0;
    }

    private static long power(int base, int exponent) {
        long made = 1;
        for (int step = 0; step < exponent; step++) {
            made *= base;
        }
        return made;
    }

    private static long chanceOf(int looks, int bad, int allowed) {
        long chance = 0;
        long choices = 1;
        for (int each = 0; each <= looks; each++) {
            if (each >= bad) {
                chance += choices * power(allowed, each) * power(10 - allowed, looks - each);
            }
            choices = choices * (looks - each) / (each + 1);
        }
        return chance;
    }

    private int countedHanks(int lot) {
        int counted = 0;
        int drawn = now.lots.get(lot, DRAWN);
        for (int place = 0; place < drawn; place++) {
            if (now.lots.get(lot, FIRST_COUNTED + place) != NONE) {
                counted++;
            }
        }
        return counted;
    }

    private int countedThreads(int lot) {
        int threads = 0;
        int drawn = now.lots.get(lot, DRAWN);
        for (int place = 0; place < drawn; place++) {
            threads += Math.max(0, now.lots.get(lot, FIRST_COUNTED + place));
        }
        return threads;
    }

    private int triedWeb(int web, int what) {
        if (!bench.weigh(web, now.day, now.day)) {
            return 0;
        }
        int length = bench.named(LENGTH);
        int bounty = bench.amount(BOUNTY, now.day);
        int gain = bounty - bench.amount(FEE, now.day);
        if (what == 2) {
            return bounty > now.round ? 1 : 0;
        }
        if (gain + now.out * length < now.home * length) {
            return 0;
        }
        return what == 0 ? 1 : Math.max(0, gain);
    }

    /** Rows of numbers, as many as have been added; a cell outside reads 0 and keeps nothing, so no index fails. */
    private static final class Rows {
        final int most;
        final int width;
        final int[] cells;
        int size;

        Rows(int most, int width) {
            this.most = most;
            this.width = width;
            cells = new int[Math.max(0, most * width)];
        }

        boolean has(int row) {
            return row >= 0 && row < size;
        }

        boolean isFull() {
            return size >= most;
        }

        /** The number of the new row, NONE if there is no room; of a narrow row the first columns alone are kept. */
        int add(int first, int second, int third) {
            if (isFull()) {
                return NONE;
            }
            int row = size;
            size++;
            // Going back leaves old numbers behind the rows that are left.
            for (int column = 3; column < width; column++) {
                set(row, column, 0);
            }
            set(row, 0, first);
            set(row, 1, second);
            set(row, 2, third);
            return row;
        }

        int get(int row, int column) {
            if (row < 0 || row >= most || column < 0 || column >= width) {
                return 0;
            }
            int place = row * width + column;
            return place < cells.length ? cells[place] : 0;
        }

        void set(int row, int column, int value) {
            if (row < 0 || row >= most || column < 0 || column >= width) {
                return;
            }
            int place = row * width + column;
            if (place < cells.length) {
                cells[place] = value;
            }
        }

        void copy(Rows other) {
            size = other.size;
            int used = Math.min(size * width, Math.min(cells.length, other.cells.length));
            for (int place = 0; place < used; place++) {
                cells[place] = other.cells[place];
            }
        }
    }

    /** All that an image holds. */
    private static final class Ledger {
        final Rows towns = new Rows(MOST_TOWNS, 1);
        final Rows persons = new Rows(MOST_PERSONS, 3);
        final Rows dies = new Rows(MOST_DIES, FIRST_FLAW + MOST_FLAWS);
        final Rows webs = new Rows(MOST_WEBS, 1);
        final Rows measures = new Rows(MOST_MEASURES, 7);
        final Rows forces = new Rows(MOST_FORCES, 3);
        final Rows seals = new Rows(MOST_SEALS, 5);
        final Rows looks = new Rows(MOST_LOOKS, 2);
        final Rows claims = new Rows(MOST_CLAIMS, 4);
        final Rows fines = new Rows(MOST_SEALS, FIRST_PART + SHARERS);
        final Rows trades = new Rows(MOST_TRADES, 3);
        final Rows lots = new Rows(MOST_LOTS, LOT_WIDTH);
        final Act[] acts = new Act[MOST_ACTS];
        int actCount;
        int day;
        int allow = 1;
        int out;
        int home;
        int round;

        /** Null for others. */
        Act actAt(int act) {
            return act >= 0 && act < actCount && act < acts.length ? acts[act] : null;
        }

        int enact(Act act) {
            int number = actCount;
            if (number < 0 || number >= acts.length) {
                return NONE;
            }
            acts[number] = act;
            actCount++;
            return number;
        }

        int townOf(int person) {
            return persons.get(person, LIVES_IN);
        }

        void copy(Ledger other) {
            towns.copy(other.towns);
            persons.copy(other.persons);
            dies.copy(other.dies);
            webs.copy(other.webs);
            measures.copy(other.measures);
            forces.copy(other.forces);
            seals.copy(other.seals);
            looks.copy(other.looks);
            claims.copy(other.claims);
            fines.copy(other.fines);
            trades.copy(other.trades);
            lots.copy(other.lots);
            for (int act = 0; act < MOST_ACTS && act < acts.length && act < other.acts.length; act++) {
                acts[act] = other.acts[act];
            }
            actCount = other.actCount;
            day = other.day;
            allow = other.allow;
            out = other.out;
            home = other.home;
            round = other.round;
        }
    }

    /** A text that was read: its clauses, and their sums and conditions with each step behind what it works on. */
    private static final class Act {
        final Rows clauses = new Rows(MOST_CLAUSES, 4);
        private final int[] code;
        private int kinds;
        int length;

        Act(int mostSteps) {
            code = new int[Math.max(0, mostSteps)];
        }

        boolean tells(int kind) {
            return (kinds >> kind & 1) == 1;
        }

        int open(int kind) {
            kinds |= 1 << kind;
            return clauses.add(kind, 0, length);
        }

        void put(int step) {
            if (length >= 0 && length < code.length) {
                code[length] = step;
                length++;
            }
        }

        int stepAt(int place) {
            return place >= 0 && place < code.length ? code[place] : 0;
        }

        int kindAt(int clause) {
            return clauses.get(clause, CLAUSE_KIND);
        }

        int numberAt(int clause) {
            return clauses.get(clause, CLAUSE_NUMBER);
        }

        int firstOf(int kind) {
            for (int clause = 0; clause < clauses.size; clause++) {
                if (kindAt(clause) == kind) {
                    return clause;
                }
            }
            return NONE;
        }
    }

    /** The bytes that were fed, and the tokens that they make. */
    private static final class Tape {
        private final int[] bytes = new int[MOST_BYTES];
        // The end is a token too.
        final int[] kinds = new int[MOST_BYTES + 1];
        final int[] places = new int[MOST_BYTES + 1];
        final int[] numbers = new int[MOST_BYTES + 1];
        int length;
        int tokens;

        void put(int four) {
            for (int shift = 24; shift >= 0; shift -= 8) {
                if (length >= 0 && length < bytes.length) {
                    bytes[length] = four >> shift & 255;
                    length++;
                }
            }
        }

        private void addToken(int kind, int place, int number) {
            if (tokens >= 0 && tokens < kinds.length && tokens < places.length && tokens < numbers.length) {
                kinds[tokens] = kind;
                places[tokens] = place;
                numbers[tokens] = number;
                tokens++;
            }
        }

        private int byteAt(int place) {
            return place >= 0 && place < length && place < bytes.length ? bytes[place] : 0;
        }

        private static boolean isLetter(int sign) {
            return (sign >= 'a' && sign <= 'z') || (sign >= 'A' && sign <= 'Z');
        }

        private static boolean isDigit(int sign) {
            return sign >= '0' && sign <= '9';
        }

        /** What is no token is UNKNOWN here: it is a fault only if the reader comes to it. */
        void split() {
            tokens = 0;
            int place = 0;
            for (int step = 0; step < MOST_BYTES && place < length; step++) {
                int sign = byteAt(place);
                if (sign == ' ' || sign == '\n') {
                    place++;
                } else if (isLetter(sign)) {
                    place = addWord(place);
                } else if (isDigit(sign)) {
                    place = addNumber(place);
                } else {
                    place = addSign(place);
                }
            }
            addToken(END, length, 0);
        }

        private int addWord(int start) {
            int end = start;
            for (int step = 0; step < MOST_BYTES && isLetter(byteAt(end)); step++) {
                end++;
            }
            int kind = UNKNOWN;
            for (int word = 0; word < WORD_KINDS && kind == UNKNOWN; word++) {
                if (isWord(word, start, end - start)) {
                    kind = word;
                }
            }
            addToken(kind, start, 0);
            return end;
        }

        /** The words are filled up with blanks, which no letter is like. */
        private boolean isWord(int word, int start, int letters) {
            if (letters > WORD_WIDTH) {
                return false;
            }
            for (int i = 0; i < WORD_WIDTH; i++) {
                int sign = i < letters ? byteAt(start + i) : ' ';
                int place = word * WORD_WIDTH + i;
                if (place < 0 || place >= WORDS.length() || WORDS.charAt(place) != sign) {
                    return false;
                }
            }
            return true;
        }

        private int addNumber(int start) {
            int end = start;
            int number = 0;
            for (int step = 0; step < MOST_BYTES && isDigit(byteAt(end)); step++) {
                // All beyond the largest are the same fault: kept small, they can't wrap around.
                number = Math.min(LARGEST_NUMBER + 1, number * 10 + byteAt(end) - '0');
                end++;
            }
            addToken(NUMBER, start, number);
            return end;
        }

        private int addSign(int place) {
            int at = SIGNS.indexOf((char) byteAt(place));
            int kind = at < 0 ? UNKNOWN : WORD_KINDS + at;
            boolean longer = byteAt(place + 1) == '=';
            if (longer && kind == LESS) {
                kind = LESS_OR_LIKE;
            } else if (longer && kind == MORE) {
                kind = MORE_OR_LIKE;
            } else {
                longer = false;
            }
            addToken(kind, place, 0);
            return longer ? place + 2 : place + 1;
        }
    }

    /** Reads the tape's tokens as an act. Behind the first fault it stands still, and no later one counts. */
    private static final class Reader {
        private final Tape tape;
        private int at;
        // Never null, also ahead of the first text.
        Act draft = new Act(0);
        int fault = NONE;
        int faultPlace = NONE;

        Reader(Tape tape) {
            this.tape = tape;
        }

        void start() {
            tape.split();
            draft = new Act(tape.tokens);
            at = 0;
            fault = 0;
            faultPlace = NONE;
        }

        boolean hasMore() {
            return fault == 0 && token() != END;
        }

        private int token() {
            return at >= 0 && at < tape.kinds.length ? tape.kinds[at] : END;
        }

        private int number() {
            return at >= 0 && at < tape.numbers.length ? tape.numbers[at] : 0;
        }

        private void pass() {
            if (fault == 0 && at + 1 < tape.tokens) {
                at++;
            }
        }

        private void fail(int what) {
            if (fault == 0) {
                fault = what;
                faultPlace = at >= 0 && at < tape.places.length ? tape.places[at] : tape.length;
            }
        }

        private void expect(int kind) {
            if (token() == kind) {
                pass();
            } else {
                fail(FAULT_PLACE);
            }
        }

        private void emit(int kind) {
            draft.put(STEPS + kind);
        }

        void readClause() {
            int kind = token();
            if (kind < SORT || kind > LEVEL) {
                fail(FAULT_PLACE);
            } else if (kind >= FEE && draft.tells(kind)) {
                fail(FAULT_TWICE);
            } else if (draft.clauses.isFull()) {
                fail(FAULT_CLAUSES);
            } else {
                int clause = draft.open(kind);
                pass();
                if (kind == SORT || kind >= SHRINK) {
                    readTold(clause, kind);
                }
                if (kind <= PRIZE) {
                    readEither();
                } else if (kind <= FINE) {
                    readSum(0);
                }
                expect(STOP);
                draft.clauses.set(clause, CLAUSE_END, draft.length);
            }
        }

        private void readTold(int clause, int kind) {
            if (kind < 0 || kind >= LEAST_TOLD.length || kind >= MOST_TOLD.length || token() != NUMBER) {
                fail(FAULT_PLACE);
            } else if (!isWithin(number(), LEAST_TOLD[kind], MOST_TOLD[kind])) {
                fail(FAULT_NUMBER);
            } else {
                draft.clauses.set(clause, CLAUSE_NUMBER, number());
                pass();
            }
        }

        private void readEither() {
            boolean more = true;
            for (int either = 0; either < MOST_BYTES && more && fault == 0; either++) {
                readAsk(0);
                for (int both = 0; both < MOST_BYTES && token() == AND && fault == 0; both++) {
                    pass();
                    readAsk(0);
                    emit(AND);
                }
                if (either > 0) {
                    emit(OR);
                }
                more = token() == OR;
                if (more) {
                    pass();
                }
            }
        }

        private void readAsk(int open) {
            if (token() == NOT) {
                if (open >= MOST_OPEN) {
                    fail(FAULT_DEPTH);
                    return;
                }
                pass();
                readAsk(open + 1);
                emit(NOT);
                return;
            }
            readSum(open);
            int asked = token();
            if (!isWithin(asked, LESS, UNLIKE) && asked != LESS_OR_LIKE && asked != MORE_OR_LIKE) {
                fail(FAULT_PLACE);
                return;
            }
            pass();
            readSum(open);
            emit(asked);
        }

        private void readSum(int open) {
            int joined = NONE;
            boolean more = true;
            for (int product = 0; product < MOST_BYTES && more && fault == 0; product++) {
                readOne(open);
                for (int one = 0; one < MOST_BYTES && isWithin(token(), TIMES, OVER) && fault == 0; one++) {
                    int by = token();
                    pass();
                    readOne(open);
                    emit(by);
                }
                if (joined != NONE) {
                    emit(joined);
                }
                joined = token();
                more = isWithin(joined, PLUS, MINUS);
                if (more) {
                    pass();
                }
            }
        }

        private void readOne(int open) {
            int kind = token();
            if (kind == NUMBER) {
                if (number() > LARGEST_NUMBER) {
                    fail(FAULT_NUMBER);
                }
                draft.put(number());
                pass();
            } else if (kind == SORT || isWithin(kind, WIDTH, DAY)) {
                emit(kind);
                pass();
            } else if (kind == MIN || kind == MAX) {
                pass();
                readBrackets(open, kind);
            } else if (kind != MINUS) {
                readBrackets(open, NONE);
            } else if (open >= MOST_OPEN) {
                fail(FAULT_DEPTH);
            } else {
                pass();
                readOne(open + 1);
                emit(NEGATE);
            }
        }

        /** Of two sums, if they are those of min or max, else of one. */
        private void readBrackets(int open, int paired) {
            if (token() != OPEN) {
                fail(FAULT_PLACE);
            } else if (open >= MOST_OPEN) {
                fail(FAULT_DEPTH);
            } else {
                pass();
                readSum(open + 1);
                if (paired != NONE) {
                    expect(COMMA);
                    readSum(open + 1);
                    emit(paired);
                }
                expect(SHUT);
            }
        }
    }

    /** A web, or a person for a prize, as the acts see it. */
    private static final class Bench {
        // Eight brackets hold three numbers each at most, a condition three more.
        private static final int STACK = 64;

        private final Ledger ledger;
        private final int[] names = new int[DAY + 1];
        private final long[] stack = new long[STACK];
        /** As if in force latest; null for none. */
        Act beside;
        int sortOfWeb;

        Bench(Ledger ledger) {
            this.ledger = ledger;
        }

        int named(int name) {
            return name >= 0 && name < names.length ? names[name] : 0;
        }

        private void name(int name, int value) {
            if (name >= 0 && name < names.length) {
                names[name] = value;
            }
        }

        int latestMeasure(int web, int day, int known) {
            Rows measures = ledger.measures;
            int latest = NONE;
            int latestFrom = NONE;
            for (int row = 0; row < measures.size; row++) {
                if (measures.get(row, MEASURED_WEB) == web) {
                    int from = measures.get(row, MEASURED_FROM);
                    if (from <= day && from >= latestFrom && measures.get(row, TOLD_ON) <= known) {
                        latest = row;
                        latestFrom = from;
                    }
                }
            }
            return latest;
        }

        /** Names what the board has of a web; false, and nothing is named, without measures. */
        boolean weigh(int web, int day, int known) {
            int row = latestMeasure(web, day, known);
            int town = ledger.townOf(ledger.webs.get(web, WEAVER));
            int inch = ledger.towns.get(town, INCH);
            if (row == NONE || inch <= 0) {
                return false;
            }
            int weeks = ledger.measures.get(row, TOLD_WEEKS);
            int shrink = told(SHRINK, day);
            int width = ledger.measures.get(row, TOLD_WIDTH) * inch / 100;
            for (int week = 0; week < MOST_WEEKS && week < weeks; week++) {
                width -= width * shrink / 100;
            }
            name(WIDTH, width);
            name(COUNT, ledger.measures.get(row, TOLD_COUNT) * 100 / inch);
            name(LENGTH, ledger.measures.get(row, TOLD_LENGTH));
            name(WEEKS, weeks);
            name(TOWN, town);
            name(DAY, day);
            nameSort(day);
            return true;
        }

        private void nameSort(int day) {
            name(SORT, 0);
            int clause = firstClause(SORT, day, true);
            Act act = actFor(SORT, day);
            sortOfWeb = clause == NONE || act == null ? NONE : act.numberAt(clause);
            name(SORT, sortOfWeb == NONE ? SORT_OF_NONE : sortOfWeb);
        }

        boolean mayWin(int person) {
            Arrays.fill(names, 0);
            name(TOWN, ledger.townOf(person));
            name(DAY, ledger.day);
            return actFor(PRIZE, ledger.day) == null || firstClause(PRIZE, ledger.day, true) != NONE;
        }

        /** In pounds, 0 without measures; the web is named by it. */
        int needOf(int web) {
            if (!weigh(web, ledger.day, ledger.day)) {
                return 0;
            }
            return named(WIDTH) * named(LENGTH) * named(COUNT) / 1000 + 1;
        }

        /** Null without. */
        private Act actFor(int kind, int day) {
            if (beside != null && beside.tells(kind)) {
                return beside;
            }
            Rows forces = ledger.forces;
            for (int force = forces.size - 1; force >= 0; force--) {
                if (forces.get(force, FORCED_FROM) <= day && day <= forces.get(force, FORCED_TO)) {
                    Act act = ledger.actAt(forces.get(force, FORCED_ACT));
                    if (act != null && act.tells(kind)) {
                        return act;
                    }
                }
            }
            return null;
        }

        int told(int kind, int day) {
            Act act = actFor(kind, day);
            if (act != null) {
                return act.numberAt(act.firstOf(kind));
            }
            return kind >= 0 && kind < UNTOLD.length ? UNTOLD[kind] : 0;
        }

        /** A fee, bounty or fine of the web that was named last. */
        int amount(int kind, int day) {
            Act act = actFor(kind, day);
            return act == null ? 0 : (int) Math.max(0, valueOf(act, act.firstOf(kind)));
        }

        /** The first clause of a kind that is so, or that isn't; NONE without. */
        int firstClause(int kind, int day, boolean so) {
            Act act = actFor(kind, day);
            if (act == null) {
                return NONE;
            }
            for (int clause = 0; clause < act.clauses.size; clause++) {
                if (act.kindAt(clause) == kind && (valueOf(act, clause) != 0) == so) {
                    return clause;
                }
            }
            return NONE;
        }

        private long valueOf(Act act, int clause) {
            int end = act.clauses.get(clause, CLAUSE_END);
            int top = 0;
            for (int at = act.clauses.get(clause, CLAUSE_START); at < end; at++) {
                int step = act.stepAt(at);
                int taken = takenBy(step - STEPS);
                int made = top - taken;
                if (made < 0 || made >= stack.length) {
                    return 0;
                }
                long left = stack[made];
                long right = taken == 2 && made + 1 < stack.length ? stack[made + 1] : 0;
                long value = step < STEPS ? step : stepOf(step - STEPS, left, right);
                stack[made] = Math.max(-LARGEST_SUM, Math.min(LARGEST_SUM, value));
                top = made + 1;
            }
            return stack[0];
        }

        /** How many numbers a step takes from the stack: NUMBERS and NAMES none. */
        private static int takenBy(int kind) {
            if (kind < AND) {
                return 0;
            }
            return kind == NOT || kind == NEGATE ? 1 : 2;
        }

        private long stepOf(int kind, long left, long right) {
            switch (kind) {
                case AND:
                    return left & right;
                case OR:
                    return left | right;
                case NOT:
                    return 1 - left;
                case LESS:
                    return left < right ? 1 : 0;
                case LESS_OR_LIKE:
                    return left <= right ? 1 : 0;
                case MORE:
                    return left > right ? 1 : 0;
                case MORE_OR_LIKE:
                    return left >= right ? 1 : 0;
                case LIKE:
                    return left == right ? 1 : 0;
                case UNLIKE:
                    return left != right ? 1 : 0;
                case MIN:
                    return Math.min(left, right);
                case MAX:
                    return Math.max(left, right);
                case NEGATE:
                    return -left;
                case PLUS:
                    return left + right;
                case MINUS:
                    return left - right;
                case TIMES:
                    return left * right;
                case OVER:
                    return right == 0 ? 0 : left / right;
                default:
                    return kind >= 0 && kind < names.length ? names[kind] : 0;
            }
        }
    }

    /** Whether webs can have been woven: row w of the stock and of what was sent is how it stands ahead of web w. */
    private static final class Loom {
        private static final int WOVEN_BY = 0;
        private static final int NEEDED = 1;
        private static final int YARDS = 2;
        // Above what any webs have or need.
        private static final int MOST_YARDS = 10000;
        private static final int MOST_POUNDS = 10000;
        private static final int UNSEEN = -2;

        private final Ledger ledger;
        private final Rows stock = new Rows(MOST_DOUBTED + 1, MOST_PERSONS);
        private final Rows sent = new Rows(MOST_DOUBTED + 1, MOST_TRADES);
        // The trades of each person, one person's behind another's, and where each one's begin.
        private final Rows tradesOf = new Rows(2 * MOST_TRADES, 1);
        private final Rows begins = new Rows(MOST_PERSONS + 1, 1);
        private final Rows queue = new Rows(MOST_PERSONS, 1);
        private final Rows reachedBy = new Rows(MOST_PERSONS, 1);
        final Rows webs = new Rows(MOST_DOUBTED, 3);
        int leastLength;
        int leftOut;

        Loom(Ledger ledger) {
            this.ledger = ledger;
        }

        void start(int peckPounds) {
            webs.size = 0;
            leastLength = MOST_YARDS;
            leftOut = 0;
            tradesOf.size = 0;
            for (int person = 0; person < ledger.persons.size; person++) {
                stock.set(0, person, ledger.persons.get(person, PECKS) * peckPounds);
                begins.set(person, 0, tradesOf.size);
                for (int trade = 0; trade < ledger.trades.size; trade++) {
                    if (ledger.trades.get(trade, SELLER) == person || ledger.trades.get(trade, BUYER) == person) {
                        tradesOf.add(trade, 0, 0);
                    }
                }
            }
            begins.set(ledger.persons.size, 0, tradesOf.size);
            for (int trade = 0; trade < ledger.trades.size; trade++) {
                sent.set(0, trade, 0);
            }
        }

        /** Keeps ahead of leaving out, so that of like sets the first one found is the first by webs. */
        private void search(int web, int length, int out) {
            if (length >= leastLength || web > MOST_DOUBTED) {
                return;
            }
            if (web >= webs.size) {
                leastLength = length;
                leftOut = out;
                return;
            }
            standAs(web);
            if (weaves(web)) {
                search(web + 1, length, out);
            }
            // Without need a web hinders no other: left out it could not be better.
            if (webs.get(web, NEEDED) > 0) {
                standAs(web);
                search(web + 1, length + webs.get(web, YARDS), out | 1 << web);
            }
        }

        private void standAs(int web) {
            for (int person = 0; person < ledger.persons.size; person++) {
                stock.set(web + 1, person, stock.get(web, person));
            }
            for (int trade = 0; trade < ledger.trades.size; trade++) {
                sent.set(web + 1, trade, sent.get(web, trade));
            }
        }

        private boolean weaves(int web) {
            int weaver = webs.get(web, WOVEN_BY);
            int wanted = webs.get(web, NEEDED);
            for (int step = 0; step < MOST_POUNDS && wanted > 0; step++) {
                int giver = giverTo(web + 1, weaver);
                if (giver == NONE) {
                    return false;
                }
                wanted -= carry(web + 1, giver, weaver, wanted);
            }
            return wanted <= 0;
        }

        /** The nearest person with stock from whom pounds can go to the weaver, NONE without. */
        private int giverTo(int row, int weaver) {
            for (int person = 0; person < ledger.persons.size; person++) {
                reachedBy.set(person, 0, UNSEEN);
            }
            queue.size = 0;
            queue.add(weaver, 0, 0);
            reachedBy.set(weaver, 0, NONE);
            for (int turn = 0; turn < MOST_PERSONS && turn < queue.size; turn++) {
                int person = queue.get(turn, 0);
                if (stock.get(row, person) > 0) {
                    return person;
                }
                int end = begins.get(person + 1, 0);
                for (int place = begins.get(person, 0); place < end; place++) {
                    int trade = tradesOf.get(place, 0);
                    int other = otherOf(trade, person);
                    if (reachedBy.get(other, 0) == UNSEEN && roomFrom(row, trade, other) > 0) {
                        reachedBy.set(other, 0, trade);
                        queue.add(other, 0, 0);
                    }
                }
            }
            return NONE;
        }

        private int otherOf(int trade, int person) {
            int seller = ledger.trades.get(trade, SELLER);
            return seller == person ? ledger.trades.get(trade, BUYER) : seller;
        }

        /** What a seller can send besides, or what a buyer can do without again. */
        private int roomFrom(int row, int trade, int person) {
            int gone = sent.get(row, trade);
            return ledger.trades.get(trade, SELLER) == person ? ledger.trades.get(trade, POUNDS) - gone : gone;
        }

        /** How many pounds went, along the trades by which the giver was reached. */
        private int carry(int row, int giver, int weaver, int wanted) {
            int pounds = Math.min(wanted, stock.get(row, giver));
            int person = giver;
            for (int step = 0; step < MOST_PERSONS && person != weaver; step++) {
                int trade = reachedBy.get(person, 0);
                pounds = Math.min(pounds, roomFrom(row, trade, person));
                person = otherOf(trade, person);
            }
            person = giver;
            for (int step = 0; step < MOST_PERSONS && person != weaver; step++) {
                int trade = reachedBy.get(person, 0);
                int change = ledger.trades.get(trade, SELLER) == person ? pounds : -pounds;
                sent.set(row, trade, sent.get(row, trade) + change);
                person = otherOf(trade, person);
            }
            stock.set(row, giver, stock.get(row, giver) - pounds);
            return pounds;
        }
    }

    /** Things in a row, to be drawn. */
    private static final class Urn {
        private final int[] things = new int[MOST_HANKS];
        int size;

        void add(int thing) {
            if (size >= 0 && size < things.length) {
                things[size] = thing;
                size++;
            }
        }

        void fill(int most) {
            size = 0;
            for (int thing = 0; thing < most; thing++) {
                add(thing);
            }
        }

        int thingAt(int place) {
            return place >= 0 && place < size && place < things.length ? things[place] : NONE;
        }

        void mix(int seed) {
            int state = seed;
            for (int place = 0; place < size && place < things.length; place++) {
                state = state * 1103515245 + 12345;
                int other = place + (state >>> 16) % (size - place);
                if (other >= 0 && other < things.length) {
                    int thing = things[place];
                    things[place] = things[other];
                    things[other] = thing;
                }
            }
        }
    }
}
