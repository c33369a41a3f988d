/** Edges of promises 1 to 9 and 41 to 43: towns, persons, dies, webs, measures, the clock, the image. */
public final class BoardEdgesTest {
    private static final int LOW = Edges.LOW;
    private static final int HIGH = Edges.HIGH;

    private static void due(String what, long got, long want) {
        Edges.due(what, got, want);
    }

    private static void due(String what, boolean got, boolean want) {
        Edges.due(what, got, want);
    }

    // ---- promise 1

    @Edges.Says({"The constants: `NONE = -1`: None."})
    static void p1new_noneIsMinusOne() {
        due("NONE", LinenBoard.NONE, -1);
    }

    @Edges.Says("No TOWNS, PERSONS, ACTS;")
    static void p1new_hasNoTowns() {
        LinenBoard x = new LinenBoard();
        due("about(1)", x.about(1), 0);
        due("person(0, 0)", x.person(0, 0), -1);
        due("way(0, 0)", x.way(0, 0), -1);
    }

    @Edges.Says("No TOWNS, PERSONS, ACTS;")
    static void p1new_hasNoPersons() {
        LinenBoard x = new LinenBoard();
        due("about(2)", x.about(2), 0);
        due("die(0)", x.die(0), -1);
        due("web(0)", x.web(0), -1);
        due("kind(0, 0)", x.kind(0, 0), -1);
        due("book(10)", x.book(10), -1);
    }

    @Edges.Says("No TOWNS, PERSONS, ACTS;")
    static void p1new_hasNoActs() {
        LinenBoard x = new LinenBoard();
        due("about(6)", x.about(6), 0);
        due("force(0, 0, 0)", x.force(0, 0, 0), -1);
        due("tried(0, 0)", x.tried(0, 0), -1);
    }

    @Edges.Says("No TOWNS, PERSONS, ACTS;")
    static void p1new_hasNothingElse() {
        LinenBoard x = new LinenBoard();
        for (int what = 0; what <= 13; what++) {
            due("about(" + what + ")", x.about(what), 0);
        }
        for (int what = 0; what <= 2; what++) {
            due("book(" + what + ")", x.book(what), 0);
            due("tried(-1, " + what + ")", x.tried(-1, what), 0);
        }
    }

    @Edges.Says({"DAY 0;", "DAYS 0 .. 999: the clock's at first 0."})
    static void p1new_isOnDay0() {
        due("about(0)", new LinenBoard().about(0), 0);
    }

    @Edges.Says("THE IMAGE is this.")
    static void p1new_isTheImage() {
        LinenBoard x = Edges.goodSeal();
        Edges.inForce(x, "fee 1;");
        x.look(0);
        x.claim(0);
        x.person(0, 0);
        x.trade(0, 1, 1);
        x.lot(1);
        x.allow(9);
        x.days(5);
        due("back()", x.back(), 0);
        for (int what = 0; what <= 13; what++) {
            due("about(" + what + ")", x.about(what), 0);
        }
        due("about(14)", x.about(14), 1);
    }

    @Edges.Says("THE IMAGE is this.")
    static void p1new_ownsItsState() {
        LinenBoard x = Edges.oneWeb();
        LinenBoard y = new LinenBoard();
        due("towns of another object", y.about(1), 0);
        due("towns of this one", x.about(1), 1);
    }

    @Edges.Says("An object is used for at most 512 calls after it has been made; what later calls answer is free.")
    static void p1new_answersIts512thCall() {
        LinenBoard x = new LinenBoard();
        for (int call = 1; call <= 510; call++) {
            due("call " + call, x.days(call % 2 == 0 ? 0 : 201), -1);
        }
        due("call 511", x.days(1), 1);
        due("call 512", x.about(0), 1);
    }

    // ---- promise 2

    @Edges.Says({"A TOWN: its number.", "TOWNS 0 .. 5,"})
    static void p2town_numbersFrom0To5() {
        LinenBoard x = new LinenBoard();
        for (int i = 0; i <= 5; i++) {
            due("town " + i, x.town(100), i);
        }
    }

    @Edges.Says("or if there are 6.")
    static void p2town_theSeventhIsNone() {
        LinenBoard x = new LinenBoard();
        for (int i = 0; i < 6; i++) {
            x.town(80 + i);
        }
        due("the seventh", x.town(100), -1);
        due("about(1)", x.about(1), 6);
        x.person(5, 0);
        x.web(0);
        x.measure(0, 0, 100, 1, 1, 0);
        due("the sixth keeps its inch", x.board(0, 0, 0, 0), 85);
    }

    @Edges.Says("each with an INCH (80 .. 120 hundredths of the board's).")
    static void p2town_inch80IsTheLeast() {
        LinenBoard x = new LinenBoard();
        due("town(80)", x.town(80), 0);
        x.person(0, 0);
        x.web(0);
        x.measure(0, 0, 100, 1, 1, 0);
        due("width by inches of 80", x.board(0, 0, 0, 0), 80);
    }

    @Edges.Says("each with an INCH (80 .. 120 hundredths of the board's).")
    static void p2town_inch120IsTheMost() {
        LinenBoard x = new LinenBoard();
        due("town(120)", x.town(120), 0);
        x.person(0, 0);
        x.web(0);
        x.measure(0, 0, 100, 1, 1, 0);
        due("width by inches of 120", x.board(0, 0, 0, 0), 120);
    }

    @Edges.Says({"NONE for others,", "each with an INCH (80 .. 120 hundredths of the board's)."})
    static void p2town_inch79IsTooSmall() {
        due("town(79)", new LinenBoard().town(79), -1);
    }

    @Edges.Says({"NONE for others,", "each with an INCH (80 .. 120 hundredths of the board's)."})
    static void p2town_inch121IsTooLarge() {
        due("town(121)", new LinenBoard().town(121), -1);
    }

    @Edges.Says("NONE for others,")
    static void p2town_farOffInchesAreNone() {
        LinenBoard x = new LinenBoard();
        for (int inch : new int[] {0, -1, -100, LOW, HIGH}) {
            due("town(" + inch + ")", x.town(inch), -1);
        }
    }

    @Edges.Says("NONE for others,")
    static void p2town_aRefusedOneIsNoTown() {
        LinenBoard x = new LinenBoard();
        x.town(79);
        due("about(1)", x.about(1), 0);
        due("the next one", x.town(100), 0);
    }

    // ---- promise 3

    @Edges.Says({"A PERSON: its number.", "PERSONS 0 .. 29:"})
    static void p3person_numbersFrom0To29() {
        LinenBoard x = new LinenBoard();
        x.town(100);
        for (int i = 0; i <= 29; i++) {
            due("person " + i, x.person(0, 3), i);
        }
    }

    @Edges.Says("or if there are 30.")
    static void p3person_the31stIsNone() {
        LinenBoard x = Edges.persons(30);
        due("the 31st", x.person(0, 0), -1);
        due("about(2)", x.about(2), 30);
        due("web of a 31st", x.web(30), -1);
    }

    @Edges.Says("a TOWN, a KIN (0 .. 9).")
    static void p3person_kin0IsTheLeast() {
        LinenBoard x = new LinenBoard();
        x.town(100);
        due("person(0, 0)", x.person(0, 0), 0);
    }

    @Edges.Says("a TOWN, a KIN (0 .. 9).")
    static void p3person_kin9IsTheMost() {
        LinenBoard x = new LinenBoard();
        x.town(100);
        due("person(0, 9)", x.person(0, 9), 0);
    }

    @Edges.Says({"NONE for others,", "a TOWN, a KIN (0 .. 9)."})
    static void p3person_kinMinus1IsTooSmall() {
        LinenBoard x = new LinenBoard();
        x.town(100);
        due("person(0, -1)", x.person(0, -1), -1);
        due("person(0, LOW)", x.person(0, LOW), -1);
    }

    @Edges.Says({"NONE for others,", "a TOWN, a KIN (0 .. 9)."})
    static void p3person_kin10IsTooLarge() {
        LinenBoard x = new LinenBoard();
        x.town(100);
        due("person(0, 10)", x.person(0, 10), -1);
        due("person(0, HIGH)", x.person(0, HIGH), -1);
    }

    @Edges.Says("NONE for others,")
    static void p3person_wantsATownThatIsThere() {
        LinenBoard x = new LinenBoard();
        x.town(100);
        x.town(110);
        due("person(1, 0)", x.person(1, 0), 0);
        for (int town : new int[] {2, -1, 6, LOW, HIGH}) {
            due("person(" + town + ", 0)", x.person(town, 0), -1);
        }
    }

    @Edges.Says("NONE for others,")
    static void p3person_aRefusedOneIsNoPerson() {
        LinenBoard x = new LinenBoard();
        x.town(100);
        x.person(1, 0);
        x.person(0, 10);
        due("about(2)", x.about(2), 0);
        due("the next one", x.person(0, 0), 0);
    }

    @Edges.Says("a TOWN, a KIN (0 .. 9).")
    static void p3person_keepsItsOwnTownAndKin() {
        LinenBoard x = new LinenBoard();
        x.town(80);
        x.town(120);
        x.person(1, 4);
        x.person(0, 4);
        x.web(0);
        x.web(1);
        x.measure(0, 0, 100, 1, 1, 0);
        x.measure(1, 0, 100, 1, 1, 0);
        due("width of town 1", x.board(0, 0, 0, 0), 120);
        due("width of town 0", x.board(1, 0, 0, 0), 80);
        due("kin 4 has one prize alone", x.prize(2, 0, 1), -1);
    }

    // ---- promise 4

    @Edges.Says({"A DIE: its number.", "DIES 0 .. 9, each of a PERSON."})
    static void p4die_numbersFrom0To9() {
        LinenBoard x = Edges.onePerson();
        for (int i = 0; i <= 9; i++) {
            due("die " + i, x.die(0), i);
        }
    }

    @Edges.Says("or if there are 10.")
    static void p4die_the11thIsNone() {
        LinenBoard x = Edges.onePerson();
        for (int i = 0; i < 10; i++) {
            x.die(0);
        }
        due("the 11th", x.die(0), -1);
        due("about(3)", x.about(3), 10);
        due("a flaw of it", x.flaw(10, 0, 0), false);
    }

    @Edges.Says("or if there are 10.")
    static void p4die_aRefusedOneLeavesTheFlawsOfOthers() {
        LinenBoard x = Edges.onePerson();
        for (int i = 0; i < 10; i++) {
            x.die(0);
            x.flaw(i, 0, 0);
        }
        x.die(0);
        due("the last has its flaw still", x.flaw(9, 0, 0), false);
        due("the first has its flaw still", x.flaw(0, 0, 0), false);
    }

    @Edges.Says({"NONE for others,", "DIES 0 .. 9, each of a PERSON."})
    static void p4die_wantsAPersonThatIsThere() {
        LinenBoard x = Edges.onePerson();
        for (int person : new int[] {1, -1, 30, LOW, HIGH}) {
            due("die(" + person + ")", x.die(person), -1);
        }
        due("about(3)", x.about(3), 0);
        due("the next one", x.die(0), 0);
    }

    // ---- promise 5

    @Edges.Says({"A FLAW of a DIE from a DAY on: true.", "FLAWS (0 .. 15) of a DIE:"})
    static void p5flaw_flaw0IsTheFirst() {
        LinenBoard x = Edges.oneDie();
        due("flaw(0, 0, 0)", x.flaw(0, 0, 0), true);
        x.seal(0, 0, 1);
        due("the die has it", x.sealOf(0, 3), 0);
    }

    @Edges.Says({"A FLAW of a DIE from a DAY on: true.", "FLAWS (0 .. 15) of a DIE:"})
    static void p5flaw_flaw15IsTheLast() {
        LinenBoard x = Edges.oneDie();
        due("flaw(0, 15, 0)", x.flaw(0, 15, 0), true);
        x.seal(0, 0, 32768);
        due("the die has it", x.sealOf(0, 3), 0);
    }

    @Edges.Says({"False for others,", "FLAWS (0 .. 15) of a DIE:"})
    static void p5flaw_flawMinus1IsNone() {
        LinenBoard x = Edges.oneDie();
        due("flaw(0, -1, 0)", x.flaw(0, -1, 0), false);
        due("flaw(0, LOW, 0)", x.flaw(0, LOW, 0), false);
    }

    @Edges.Says({"False for others,", "FLAWS (0 .. 15) of a DIE:"})
    static void p5flaw_flaw16IsNone() {
        LinenBoard x = Edges.oneDie();
        x.die(0);
        due("flaw(0, 16, 0)", x.flaw(0, 16, 0), false);
        due("flaw(0, HIGH, 0)", x.flaw(0, HIGH, 0), false);
        x.seal(0, 0, 0);
        x.seal(1, 0, 0);
        due("nor has the die one by it", x.sealOf(0, 3), 0);
        due("nor the next die", x.sealOf(1, 3), 0);
    }

    @Edges.Says("each from a DAY on (0 to the clock's).")
    static void p5flaw_fromDay0() {
        LinenBoard x = Edges.oneDie();
        x.seal(0, 0, 2);
        x.days(7);
        due("flaw(0, 1, 0)", x.flaw(0, 1, 0), true);
        due("the die had it on day 0", x.sealOf(0, 3), 0);
    }

    @Edges.Says("each from a DAY on (0 to the clock's).")
    static void p5flaw_fromTheClocksDay() {
        LinenBoard x = Edges.oneDie();
        x.days(7);
        due("flaw(0, 1, 7)", x.flaw(0, 1, 7), true);
        x.seal(0, 0, 2);
        due("the die has it on that day", x.sealOf(0, 3), 0);
    }

    @Edges.Says({"False for others,", "each from a DAY on (0 to the clock's)."})
    static void p5flaw_fromTheDayBehindTheClocksIsRefused() {
        LinenBoard x = Edges.oneDie();
        x.days(7);
        due("flaw(0, 1, 8)", x.flaw(0, 1, 8), false);
        due("flaw(0, 1, HIGH)", x.flaw(0, 1, HIGH), false);
        due("it hasn't got it by that", x.flaw(0, 1, 7), true);
    }

    @Edges.Says({"False for others,", "each from a DAY on (0 to the clock's)."})
    static void p5flaw_fromDayMinus1IsRefused() {
        LinenBoard x = Edges.oneDie();
        x.days(7);
        due("flaw(0, 1, -1)", x.flaw(0, 1, -1), false);
        due("flaw(0, 1, LOW)", x.flaw(0, 1, LOW), false);
        due("it hasn't got it by that", x.flaw(0, 1, 0), true);
    }

    @Edges.Says("False for others,")
    static void p5flaw_wantsADieThatIsThere() {
        LinenBoard x = Edges.oneDie();
        for (int die : new int[] {1, -1, 10, LOW, HIGH}) {
            due("flaw(" + die + ", 0, 0)", x.flaw(die, 0, 0), false);
        }
        x.seal(0, 0, 0);
        due("no die has one by it", x.sealOf(0, 3), 0);
    }

    @Edges.Says("False for others,")
    static void p5flaw_aDieThatIsGoneIsRefused() {
        LinenBoard x = Edges.oneDie();
        x.image();
        x.die(0);
        x.back();
        due("flaw(1, 0, 0)", x.flaw(1, 0, 0), false);
        due("flaw(0, 0, 0)", x.flaw(0, 0, 0), true);
    }

    @Edges.Says("or it has it.")
    static void p5flaw_thatItHasIsRefused() {
        LinenBoard x = Edges.oneDie();
        x.days(3);
        x.flaw(0, 4, 2);
        for (int day = 0; day <= 3; day++) {
            due("flaw(0, 4, " + day + ")", x.flaw(0, 4, day), false);
        }
    }

    @Edges.Says("or it has it.")
    static void p5flaw_aRefusedOneLeavesItsDay() {
        LinenBoard x = Edges.oneDie();
        x.days(1);
        x.seal(0, 0, 0);
        x.days(1);
        x.flaw(0, 4, 2);
        x.flaw(0, 4, 1);
        due("the seal of day 1 isn't forged", x.sealOf(0, 3), 0);
    }

    @Edges.Says("or it has it.")
    static void p5flaw_otherFlawsAndDiesAreFree() {
        LinenBoard x = Edges.oneDie();
        x.die(0);
        x.flaw(0, 4, 0);
        due("flaw(0, 5, 0)", x.flaw(0, 5, 0), true);
        due("flaw(0, 3, 0)", x.flaw(0, 3, 0), true);
        due("flaw(1, 4, 0)", x.flaw(1, 4, 0), true);
    }

    // ---- promise 6

    @Edges.Says({"A WEB: its number.", "WEBS 0 .. 49, each of a PERSON (its WEAVER)."})
    static void p6web_numbersFrom0To49() {
        LinenBoard x = Edges.onePerson();
        for (int i = 0; i <= 49; i++) {
            due("web " + i, x.web(0), i);
        }
    }

    @Edges.Says("or if there are 50.")
    static void p6web_the51stIsNone() {
        LinenBoard x = Edges.onePerson();
        for (int i = 0; i < 50; i++) {
            x.web(0);
        }
        due("the 51st", x.web(0), -1);
        due("about(4)", x.about(4), 50);
        due("measures of the last", x.measure(49, 0, 1, 1, 1, 0), 1);
        due("measures of a 51st", x.measure(50, 0, 1, 1, 1, 0), -1);
    }

    @Edges.Says({"NONE for others,", "WEBS 0 .. 49, each of a PERSON (its WEAVER)."})
    static void p6web_wantsAWeaverThatIsThere() {
        LinenBoard x = Edges.onePerson();
        for (int weaver : new int[] {1, -1, 30, LOW, HIGH}) {
            due("web(" + weaver + ")", x.web(weaver), -1);
        }
        due("about(4)", x.about(4), 0);
        due("the next one", x.web(0), 0);
    }

    // ---- promise 7

    private static void oneMeasure(int day, int width, int count, int length, int weeks, int want) {
        LinenBoard x = Edges.onePerson();
        x.web(0);
        String call = "measure(0, " + day + ", " + width + ", " + count + ", " + length + ", " + weeks + ")";
        due(call, x.measure(0, day, width, count, length, weeks), want);
        due("about(5) behind " + call, x.about(5), want == -1 ? 0 : 1);
        due("the web has measures by " + call, x.board(0, 999, 999, 2) != -2, want != -1);
    }

    @Edges.Says("MEASURES: how many there are.")
    static void p7measure_countsFrom1() {
        LinenBoard x = Edges.onePerson();
        x.web(0);
        due("the first", x.measure(0, 0, 1, 1, 1, 0), 1);
        due("the second", x.measure(0, 0, 1, 1, 1, 0), 2);
    }

    @Edges.Says({"or if there are 200.", "MEASURES of a WEB (200 of all):"})
    static void p7measure_the201stOfAllIsNone() {
        LinenBoard x = Edges.onePerson();
        x.web(0);
        x.web(0);
        for (int i = 1; i <= 200; i++) {
            due("measures " + i, x.measure(i % 2, i % 2, 10, 1, 1, 0), i);
        }
        due("the 201st", x.measure(0, 0, 20, 1, 1, 0), -1);
        due("the 201st of the other web", x.measure(1, 1, 20, 1, 1, 0), -1);
        due("about(5)", x.about(5), 200);
        due("the width stays", x.board(0, 0, 0, 0), 10);
    }

    @Edges.Says("from a DAY on (0 .. 999) its WIDTH (1 .. 200),")
    static void p7measure_fromDay0() {
        oneMeasure(0, 1, 1, 1, 0, 1);
    }

    @Edges.Says("from a DAY on (0 .. 999) its WIDTH (1 .. 200),")
    static void p7measure_fromDay999() {
        oneMeasure(999, 1, 1, 1, 0, 1);
    }

    @Edges.Says({"NONE for others,", "from a DAY on (0 .. 999) its WIDTH (1 .. 200),"})
    static void p7measure_fromDayMinus1IsNone() {
        oneMeasure(-1, 1, 1, 1, 0, -1);
        oneMeasure(LOW, 1, 1, 1, 0, -1);
    }

    @Edges.Says({"NONE for others,", "from a DAY on (0 .. 999) its WIDTH (1 .. 200),"})
    static void p7measure_fromDay1000IsNone() {
        oneMeasure(1000, 1, 1, 1, 0, -1);
        oneMeasure(HIGH, 1, 1, 1, 0, -1);
    }

    @Edges.Says("from a DAY on (0 .. 999) its WIDTH (1 .. 200),")
    static void p7measure_fromADayAheadOfTheClocksOrBehindIt() {
        LinenBoard x = Edges.onePerson();
        x.web(0);
        x.days(10);
        due("from day 0", x.measure(0, 0, 1, 1, 1, 0), 1);
        due("from day 10", x.measure(0, 10, 1, 1, 1, 0), 2);
        due("from day 11", x.measure(0, 11, 1, 1, 1, 0), 3);
    }

    @Edges.Says("its WIDTH (1 .. 200),")
    static void p7measure_width1IsTheLeast() {
        oneMeasure(0, 1, 1, 1, 0, 1);
    }

    @Edges.Says("its WIDTH (1 .. 200),")
    static void p7measure_width200IsTheMost() {
        oneMeasure(0, 200, 1, 1, 0, 1);
    }

    @Edges.Says({"NONE for others,", "its WIDTH (1 .. 200),"})
    static void p7measure_width0IsTooSmall() {
        oneMeasure(0, 0, 1, 1, 0, -1);
        oneMeasure(0, -1, 1, 1, 0, -1);
        oneMeasure(0, LOW, 1, 1, 0, -1);
    }

    @Edges.Says({"NONE for others,", "its WIDTH (1 .. 200),"})
    static void p7measure_width201IsTooLarge() {
        oneMeasure(0, 201, 1, 1, 0, -1);
        oneMeasure(0, HIGH, 1, 1, 0, -1);
    }

    @Edges.Says("COUNT (1 .. 99),")
    static void p7measure_count1IsTheLeast() {
        oneMeasure(0, 5, 1, 1, 0, 1);
    }

    @Edges.Says("COUNT (1 .. 99),")
    static void p7measure_count99IsTheMost() {
        oneMeasure(0, 5, 99, 1, 0, 1);
    }

    @Edges.Says({"NONE for others,", "COUNT (1 .. 99),"})
    static void p7measure_count0IsTooSmall() {
        oneMeasure(0, 5, 0, 1, 0, -1);
        oneMeasure(0, 5, -1, 1, 0, -1);
        oneMeasure(0, 5, LOW, 1, 0, -1);
    }

    @Edges.Says({"NONE for others,", "COUNT (1 .. 99),"})
    static void p7measure_count100IsTooLarge() {
        oneMeasure(0, 5, 100, 1, 0, -1);
        oneMeasure(0, 5, HIGH, 1, 0, -1);
    }

    @Edges.Says("LENGTH (1 .. 60),")
    static void p7measure_length1IsTheLeast() {
        oneMeasure(0, 5, 5, 1, 0, 1);
    }

    @Edges.Says("LENGTH (1 .. 60),")
    static void p7measure_length60IsTheMost() {
        oneMeasure(0, 5, 5, 60, 0, 1);
    }

    @Edges.Says({"NONE for others,", "LENGTH (1 .. 60),"})
    static void p7measure_length0IsTooSmall() {
        oneMeasure(0, 5, 5, 0, 0, -1);
        oneMeasure(0, 5, 5, -1, 0, -1);
        oneMeasure(0, 5, 5, LOW, 0, -1);
    }

    @Edges.Says({"NONE for others,", "LENGTH (1 .. 60),"})
    static void p7measure_length61IsTooLarge() {
        oneMeasure(0, 5, 5, 61, 0, -1);
        oneMeasure(0, 5, 5, HIGH, 0, -1);
    }

    @Edges.Says("and for how many WEEKS it was bleached (0 .. 20);")
    static void p7measure_weeks0IsTheLeast() {
        oneMeasure(0, 5, 5, 5, 0, 1);
    }

    @Edges.Says("and for how many WEEKS it was bleached (0 .. 20);")
    static void p7measure_weeks20IsTheMost() {
        oneMeasure(0, 5, 5, 5, 20, 1);
    }

    @Edges.Says({"NONE for others,", "and for how many WEEKS it was bleached (0 .. 20);"})
    static void p7measure_weeksMinus1IsTooSmall() {
        oneMeasure(0, 5, 5, 5, -1, -1);
        oneMeasure(0, 5, 5, 5, LOW, -1);
    }

    @Edges.Says({"NONE for others,", "and for how many WEEKS it was bleached (0 .. 20);"})
    static void p7measure_weeks21IsTooLarge() {
        oneMeasure(0, 5, 5, 5, 21, -1);
        oneMeasure(0, 5, 5, 5, HIGH, -1);
    }

    @Edges.Says("NONE for others,")
    static void p7measure_wantsAWebThatIsThere() {
        LinenBoard x = Edges.onePerson();
        x.web(0);
        for (int web : new int[] {1, -1, 50, LOW, HIGH}) {
            due("measure(" + web + ", ..)", x.measure(web, 0, 1, 1, 1, 0), -1);
        }
        due("about(5)", x.about(5), 0);
    }

    @Edges.Says("NONE for others,")
    static void p7measure_aRefusedOneLeavesThoseThatAreThere() {
        LinenBoard x = Edges.oneWeb();
        x.measure(0, 0, 90, 50, 10, 21);
        x.measure(0, 0, 90, 50, 61, 0);
        x.measure(0, 0, 90, 100, 10, 0);
        due("about(5)", x.about(5), 1);
        due("the width stays", x.board(0, 0, 0, 0), 100);
    }

    @Edges.Says("TOLD on the clock's DAY.")
    static void p7measure_isToldOnTheClocksDay() {
        LinenBoard x = Edges.onePerson();
        x.web(0);
        x.days(6);
        x.measure(0, 0, 30, 1, 1, 0);
        due("as known on day 5", x.board(0, 0, 5, 0), -2);
        due("as known on day 6", x.board(0, 0, 6, 0), 30);
    }

    @Edges.Says("by its WEAVER's TOWN,")
    static void p7measure_isByItsWeaversTown() {
        LinenBoard x = new LinenBoard();
        x.town(80);
        x.town(120);
        x.person(0, 0);
        x.person(1, 0);
        x.web(1);
        x.measure(0, 0, 50, 1, 1, 0);
        due("width by inches of town 1", x.board(0, 0, 0, 0), 60);
    }

    @Edges.Says("by its WEAVER's TOWN,")
    static void p7measure_ofWebsOfTwoTownsInAnyOrder() {
        LinenBoard x = new LinenBoard();
        x.town(80);
        x.town(120);
        x.person(0, 0);
        x.person(1, 0);
        x.web(0);
        x.web(1);
        x.measure(1, 0, 50, 60, 1, 0);
        x.measure(0, 0, 50, 60, 1, 0);
        due("width of web 0", x.board(0, 0, 0, 0), 40);
        due("width of web 1", x.board(1, 0, 0, 0), 60);
        due("count of web 0", x.board(0, 0, 0, 1), 75);
        due("count of web 1", x.board(1, 0, 0, 1), 50);
    }

    // ---- promise 8

    @Edges.Says("On DAY d as KNOWN on DAY k: of those from d or ahead,")
    static void p8board_measuresFromThatDayItself() {
        LinenBoard x = Edges.onePerson();
        x.web(0);
        x.measure(0, 5, 30, 1, 1, 0);
        due("on day 4", x.board(0, 4, 0, 0), -2);
        due("on day 5", x.board(0, 5, 0, 0), 30);
        due("on day 6", x.board(0, 6, 0, 0), 30);
        due("on day 999", x.board(0, 999, 0, 0), 30);
    }

    @Edges.Says("TOLD on k or ahead,")
    static void p8board_measuresToldOnThatDayItself() {
        LinenBoard x = Edges.oneWeb();
        x.days(5);
        x.measure(0, 0, 30, 1, 1, 0);
        due("as known on day 4", x.board(0, 0, 4, 0), 100);
        due("as known on day 5", x.board(0, 0, 5, 0), 30);
        due("as known on day 999", x.board(0, 0, 999, 0), 30);
    }

    @Edges.Says("the one from the latest DAY,")
    static void p8board_theLatestDayGoesAheadOfTheLatestTold() {
        LinenBoard x = Edges.onePerson();
        x.web(0);
        x.measure(0, 5, 50, 1, 1, 0);
        x.days(1);
        x.measure(0, 4, 40, 1, 1, 0);
        due("on day 5", x.board(0, 5, 1, 0), 50);
        due("on day 4", x.board(0, 4, 1, 0), 40);
    }

    @Edges.Says("the one from the latest DAY,")
    static void p8board_aLaterDayToldLaterHoldsToo() {
        LinenBoard x = Edges.onePerson();
        x.web(0);
        x.measure(0, 4, 40, 1, 1, 0);
        x.measure(0, 5, 50, 1, 1, 0);
        due("on day 5", x.board(0, 5, 0, 0), 50);
        due("on day 4", x.board(0, 4, 0, 0), 40);
    }

    @Edges.Says("of like ones the latest told;")
    static void p8board_ofLikeOnesTheLatestTold() {
        LinenBoard x = Edges.onePerson();
        x.web(0);
        x.measure(0, 5, 50, 1, 1, 0);
        x.days(1);
        x.measure(0, 5, 60, 1, 1, 0);
        due("as known on day 1", x.board(0, 5, 1, 0), 60);
        due("as known on day 0", x.board(0, 5, 0, 0), 50);
    }

    @Edges.Says("of like ones the latest told;")
    static void p8board_ofLikeOnesOfOneDayTheLastCall() {
        LinenBoard x = Edges.onePerson();
        x.web(0);
        x.measure(0, 5, 60, 1, 1, 0);
        x.measure(0, 5, 50, 1, 1, 0);
        due("on day 5", x.board(0, 5, 0, 0), 50);
    }

    @Edges.Says({"none without.", "-2 for others, and without MEASURES."})
    static void p8board_withoutMeasuresIsMinus2() {
        LinenBoard x = Edges.oneWeb();
        x.web(0);
        for (int what = 0; what <= 5; what++) {
            due("board(1, 0, 0, " + what + ")", x.board(1, 0, 0, what), -2);
        }
    }

    @Edges.Says("THE BOARD's: WIDTH * INCH / 100, cut,")
    static void p8board_widthIsCut() {
        LinenBoard x = new LinenBoard();
        x.town(119);
        x.person(0, 0);
        x.web(0);
        x.measure(0, 0, 101, 1, 1, 0);
        due("101 * 119 / 100", x.board(0, 0, 0, 0), 120);
    }

    @Edges.Says("THE BOARD's: WIDTH * INCH / 100, cut,")
    static void p8board_widthIsCutTo0() {
        LinenBoard x = new LinenBoard();
        x.town(99);
        x.person(0, 0);
        x.web(0);
        x.measure(0, 0, 1, 1, 1, 0);
        due("1 * 99 / 100", x.board(0, 0, 0, 0), 0);
    }

    @Edges.Says("THE BOARD's: WIDTH * INCH / 100, cut,")
    static void p8board_widthOf200ByInchesOf120() {
        LinenBoard x = new LinenBoard();
        x.town(120);
        x.person(0, 0);
        x.web(0);
        x.measure(0, 0, 200, 1, 1, 0);
        due("200 * 120 / 100", x.board(0, 0, 0, 0), 240);
    }

    private static LinenBoard bleached(int width, int weeks, int shrink) {
        LinenBoard x = Edges.onePerson();
        x.web(0);
        x.measure(0, 0, width, 1, 1, weeks);
        Edges.inForce(x, "shrink " + shrink + ";");
        return x;
    }

    @Edges.Says("then WEEK by WEEK less SHRINK hundredths of it (cut);")
    static void p8board_shrinksNotInNoWeeks() {
        due("no weeks", bleached(200, 0, 20).board(0, 0, 0, 0), 200);
    }

    @Edges.Says("then WEEK by WEEK less SHRINK hundredths of it (cut);")
    static void p8board_shrinksInOneWeek() {
        due("one week", bleached(200, 1, 20).board(0, 0, 0, 0), 160);
    }

    @Edges.Says("then WEEK by WEEK less SHRINK hundredths of it (cut);")
    static void p8board_whatItShrinksIsCutEachWeek() {
        // 50 - 5, then 45 - 4: what goes is cut, not what is left, nor at the end alone.
        due("two weeks", bleached(50, 2, 10).board(0, 0, 0, 0), 41);
    }

    @Edges.Says("then WEEK by WEEK less SHRINK hundredths of it (cut);")
    static void p8board_shrinksInTwentyWeeks() {
        // 160 128 103 83 67 54 44 36 29 24 20 16 13 11 9 8 7 6 5 4
        due("19 weeks", bleached(200, 19, 20).board(0, 0, 0, 0), 5);
        due("20 weeks", bleached(200, 20, 20).board(0, 0, 0, 0), 4);
    }

    @Edges.Says("then WEEK by WEEK less SHRINK hundredths of it (cut);")
    static void p8board_lessThanAHundredthIsCut() {
        due("4 less 20 hundredths", bleached(4, 20, 20).board(0, 0, 0, 0), 4);
        due("5 less 20 hundredths", bleached(5, 1, 20).board(0, 0, 0, 0), 4);
    }

    @Edges.Says("then WEEK by WEEK less SHRINK hundredths of it (cut);")
    static void p8board_shrink0TakesNothing() {
        due("20 weeks", bleached(200, 20, 0).board(0, 0, 0, 0), 200);
    }

    @Edges.Says("then WEEK by WEEK less SHRINK hundredths of it (cut);")
    static void p8board_shrinkIsThatOfTheDayAskedFor() {
        LinenBoard x = Edges.onePerson();
        x.web(0);
        x.web(0);
        x.measure(1, 0, 100, 1, 1, 1);
        x.force(Edges.act(x, "shrink 20;"), 7, 8);
        x.days(9);
        int[] want = {100, 80, 80, 100};
        for (int day = 6; day <= 9; day++) {
            due("on day " + day, x.board(1, day, 3, 0), want[day - 6]);
        }
    }

    @Edges.Says("then WEEK by WEEK less SHRINK hundredths of it (cut);")
    static void p8board_shrinksOnTheLastDayToo() {
        LinenBoard x = bleached(200, 20, 20);
        due("on day 999", x.board(0, 999, 999, 0), 4);
    }

    @Edges.Says("COUNT * 100 / INCH, cut;")
    static void p8board_countIsCut() {
        LinenBoard x = new LinenBoard();
        x.town(80);
        x.town(119);
        x.person(0, 0);
        x.person(1, 0);
        x.web(0);
        x.web(1);
        x.measure(0, 0, 1, 99, 1, 0);
        x.measure(1, 0, 1, 1, 1, 0);
        due("99 * 100 / 80", x.board(0, 0, 0, 1), 123);
        due("1 * 100 / 119", x.board(1, 0, 0, 1), 0);
    }

    @Edges.Says({"LENGTH, WEEKS as told.", "THE BOARD's: 0 WIDTH, 1 COUNT, 2 LENGTH, 3 WEEKS,"})
    static void p8board_lengthAndWeeksAreAsTold() {
        LinenBoard x = new LinenBoard();
        x.town(80);
        x.person(0, 0);
        x.web(0);
        x.measure(0, 0, 100, 80, 60, 20);
        due("width", x.board(0, 0, 0, 0), 80);
        due("count", x.board(0, 0, 0, 1), 100);
        due("length", x.board(0, 0, 0, 2), 60);
        due("weeks", x.board(0, 0, 0, 3), 20);
    }

    @Edges.Says("4 SORT (NONE: none is so),")
    static void p8board_sortIsNoneWithoutAnAct() {
        due("sort", Edges.oneWeb().board(0, 0, 0, 4), -1);
    }

    @Edges.Says("4 SORT (NONE: none is so),")
    static void p8board_sortIsNoneIfNoneIsSo() {
        LinenBoard x = Edges.oneWeb();
        Edges.inForce(x, "sort 0 width<100;sort 9 width>100;");
        due("sort", x.board(0, 0, 0, 4), -1);
    }

    @Edges.Says({"SORT of a WEB: the NUMBER of the first sort CLAUSE that is so.", "4 SORT (NONE: none is so),"})
    static void p8board_sortIsThatOfTheFirstThatIsSo() {
        LinenBoard x = Edges.oneWeb();
        Edges.inForce(x, "sort 4 width>100;sort 9 width=100;sort 0 width=100;");
        due("sort", x.board(0, 0, 0, 4), 9);
    }

    @Edges.Says("SORT of a WEB: the NUMBER of the first sort CLAUSE that is so.")
    static void p8board_sort0IsASort() {
        LinenBoard x = Edges.oneWeb();
        Edges.inForce(x, "sort 0 width=100;sort 9 width=100;");
        due("sort", x.board(0, 0, 0, 4), 0);
    }

    @Edges.Says("SORT of a WEB: the NUMBER of the first sort CLAUSE that is so.")
    static void p8board_sortIsByTheActOfTheDayAskedFor() {
        LinenBoard x = Edges.oneWeb();
        x.force(Edges.act(x, "sort 6 1=1;"), 7, 8);
        x.days(9);
        int[] want = {-1, 6, 6, -1};
        for (int day = 6; day <= 9; day++) {
            due("on day " + day, x.board(0, day, 3, 4), want[day - 6]);
        }
    }

    @Edges.Says("It LACKS the first seal CLAUSE that isn't so.")
    static void p8board_lacksByTheActOfTheDayAskedFor() {
        LinenBoard x = Edges.oneWeb();
        x.force(Edges.act(x, "fee 1;seal 1=2;"), 7, 8);
        x.days(9);
        int[] want = {-1, 1, 1, -1};
        for (int day = 6; day <= 9; day++) {
            due("on day " + day, x.board(0, day, 3, 5), want[day - 6]);
        }
    }

    @Edges.Says("5 the CLAUSE that it LACKS (NONE: none).")
    static void p8board_lacksNoneWithoutAnAct() {
        due("lacks", Edges.oneWeb().board(0, 0, 0, 5), -1);
    }

    @Edges.Says("5 the CLAUSE that it LACKS (NONE: none).")
    static void p8board_lacksNoneIfAllAreSo() {
        LinenBoard x = Edges.oneWeb();
        Edges.inForce(x, "seal width=100;seal count=50;");
        due("lacks", x.board(0, 0, 0, 5), -1);
    }

    @Edges.Says({"It LACKS the first seal CLAUSE that isn't so.", "5 the CLAUSE that it LACKS (NONE: none)."})
    static void p8board_lacksTheFirstThatIsntSo() {
        LinenBoard x = Edges.oneWeb();
        Edges.inForce(x, "seal width=100;seal count=51;seal 1=2;");
        due("lacks", x.board(0, 0, 0, 5), 1);
    }

    @Edges.Says("5 the CLAUSE that it LACKS (NONE: none).")
    static void p8board_clause0CanLack() {
        LinenBoard x = Edges.oneWeb();
        Edges.inForce(x, "seal 1=2;");
        due("lacks", x.board(0, 0, 0, 5), 0);
    }

    @Edges.Says("5 the CLAUSE that it LACKS (NONE: none).")
    static void p8board_clausesOfAllSortsAreCounted() {
        LinenBoard x = Edges.oneWeb();
        Edges.inForce(x, "fee 1;sort 1 1=2;prize 1=2;shrink 1;seal 1=2;");
        due("lacks", x.board(0, 0, 0, 5), 4);
    }

    @Edges.Says("-2 for others, and without MEASURES.")
    static void p8board_wantsAWebThatIsThere() {
        LinenBoard x = Edges.oneWeb();
        for (int web : new int[] {1, -1, 50, LOW, HIGH}) {
            due("board(" + web + ", 0, 0, 0)", x.board(web, 0, 0, 0), -2);
        }
    }

    @Edges.Says({"-2 for others, and without MEASURES.", "DAYS 0 .. 999:"})
    static void p8board_daysMinus1And1000AreOthers() {
        LinenBoard x = Edges.oneWeb();
        due("day 0", x.board(0, 0, 0, 0), 100);
        due("day 999", x.board(0, 999, 0, 0), 100);
        for (int day : new int[] {-1, 1000, LOW, HIGH}) {
            due("day " + day, x.board(0, day, 0, 0), -2);
        }
    }

    @Edges.Says({"-2 for others, and without MEASURES.", "DAYS 0 .. 999:"})
    static void p8board_asKnownOnDaysMinus1And1000AreOthers() {
        LinenBoard x = Edges.oneWeb();
        due("as known on day 999", x.board(0, 0, 999, 0), 100);
        for (int known : new int[] {-1, 1000, LOW, HIGH}) {
            due("as known on day " + known, x.board(0, 0, known, 0), -2);
        }
    }

    @Edges.Says("-2 for others, and without MEASURES.")
    static void p8board_otherQuestionsAreMinus2() {
        LinenBoard x = Edges.oneWeb();
        for (int what : new int[] {-1, 6, LOW, HIGH}) {
            due("board(0, 0, 0, " + what + ")", x.board(0, 0, 0, what), -2);
        }
    }

    // ---- promise 9

    @Edges.Says("n DAYS go by (1 .. 200): the clock.")
    static void p9days_1IsTheLeast() {
        LinenBoard x = new LinenBoard();
        due("days(1)", x.days(1), 1);
        due("about(0)", x.about(0), 1);
    }

    @Edges.Says("n DAYS go by (1 .. 200): the clock.")
    static void p9days_200IsTheMost() {
        LinenBoard x = new LinenBoard();
        due("days(200)", x.days(200), 200);
        due("days(200) again", x.days(200), 400);
    }

    @Edges.Says("NONE for others,")
    static void p9days_0IsTooFew() {
        LinenBoard x = new LinenBoard();
        x.days(3);
        for (int n : new int[] {0, -1, -3, LOW}) {
            due("days(" + n + ")", x.days(n), -1);
        }
        due("about(0)", x.about(0), 3);
    }

    @Edges.Says("NONE for others,")
    static void p9days_201IsTooMany() {
        LinenBoard x = new LinenBoard();
        x.days(3);
        due("days(201)", x.days(201), -1);
        due("days(HIGH)", x.days(HIGH), -1);
        due("about(0)", x.about(0), 3);
    }

    @Edges.Says({"or beyond 999.", "DAYS 0 .. 999:"})
    static void p9days_999IsTheLast() {
        LinenBoard x = new LinenBoard();
        for (int i = 0; i < 4; i++) {
            x.days(200);
        }
        due("to 999", x.days(199), 999);
        due("one more", x.days(1), -1);
        due("about(0)", x.about(0), 999);
    }

    @Edges.Says("or beyond 999.")
    static void p9days_1000IsBeyond() {
        LinenBoard x = new LinenBoard();
        for (int i = 0; i < 4; i++) {
            x.days(200);
        }
        due("to 1000", x.days(200), -1);
        due("about(0)", x.about(0), 800);
    }

    // ---- promises 41 and 42

    @Edges.Says({"THE IMAGE is as all is now: the clock.", "AN IMAGE: all as it is,"})
    static void p41image_answersTheClock() {
        LinenBoard x = new LinenBoard();
        due("on day 0", x.image(), 0);
        x.days(200);
        due("on day 200", x.image(), 200);
        due("the clock stays", x.about(0), 200);
    }

    @Edges.Says("THE IMAGE is as all is now:")
    static void p41image_takesThePlaceOfTheOneBefore() {
        LinenBoard x = new LinenBoard();
        x.town(100);
        x.image();
        x.town(100);
        x.image();
        x.town(100);
        x.back();
        due("towns", x.about(1), 2);
    }

    @Edges.Says("THE IMAGE is as all is now:")
    static void p41image_changesNothing() {
        LinenBoard x = Edges.goodSeal();
        x.image();
        due("about(8)", x.about(8), 1);
        due("the seal is good", x.sealOf(0, 4), 1);
        due("the next town", x.town(100), 1);
    }

    @Edges.Says("AN IMAGE: all as it is,")
    static void p41image_isntTouchedByWhatComesBehindIt() {
        LinenBoard x = Edges.oneDie();
        x.image();
        x.flaw(0, 3, 0);
        x.seed(0, 99);
        x.back();
        due("the die has no flaw", x.flaw(0, 3, 0), true);
        due("nor the person seed", x.doubt(0, 0, -1), 10);
    }

    @Edges.Says("but the tape and the latest FAULT.")
    static void p41image_hasNoTape() {
        LinenBoard x = new LinenBoard();
        x.feed(0, 0, 0, 0, 0);
        x.image();
        x.end(3);
        x.back();
        due("bytes of the tape", x.about(13), 3);
    }

    @Edges.Says("but the tape and the latest FAULT.")
    static void p41image_hasNoFault() {
        LinenBoard x = new LinenBoard();
        Edges.act(x, "fee 1;");
        x.image();
        Edges.act(x, "  fee;");
        x.back();
        due("the latest fault", x.fault(0), 1);
        due("its place", x.fault(1), 5);
    }

    @Edges.Says("BACK to THE IMAGE (it stays): the clock.")
    static void p42back_answersTheImagesClock() {
        LinenBoard x = new LinenBoard();
        x.days(7);
        x.image();
        x.days(9);
        due("back()", x.back(), 7);
        due("about(0)", x.about(0), 7);
    }

    @Edges.Says("BACK to THE IMAGE (it stays): the clock.")
    static void p42back_leavesTheImage() {
        LinenBoard x = Edges.oneDie();
        x.image();
        for (int i = 0; i < 3; i++) {
            due("flaw " + i, x.flaw(0, 3, 0), true);
            due("town " + i, x.town(100), 1);
            due("days " + i, x.days(4), 4);
            due("back " + i, x.back(), 0);
        }
    }

    @Edges.Says("BACK: all is so again.")
    static void p42back_makesRoomAgainInFullTables() {
        LinenBoard x = new LinenBoard();
        for (int i = 0; i < 6; i++) {
            x.town(100);
        }
        for (int i = 0; i < 10; i++) {
            x.act();
            x.lot(1);
        }
        x.back();
        due("a town", x.town(120), 0);
        due("an act", x.act(), 0);
        due("a lot", x.lot(2), 0);
        due("its hanks", x.lotOf(0, 0), 2);
    }

    @Edges.Says("BACK: all is so again.")
    static void p42back_toFullTables() {
        LinenBoard x = new LinenBoard();
        for (int i = 0; i < 6; i++) {
            x.town(100);
        }
        x.image();
        x.days(1);
        x.back();
        due("a seventh town", x.town(100), -1);
    }

    @Edges.Says("BACK: all is so again.")
    static void p42back_allowAndMarketAreSoAgain() {
        LinenBoard x = Edges.goodSeal();
        x.market(98, 99, 0);
        x.allow(7);
        x.image();
        x.market(99, 99, 9999);
        x.allow(2);
        x.back();
        due("allow", x.about(14), 7);
        due("out is less than home", x.tried(-1, 0), 0);
        Edges.inForce(x, "bounty 1;");
        due("round is 0", x.tried(-1, 2), 1);
    }

    @Edges.Says("BACK: all is so again.")
    static void p42back_homeIsSoAgain() {
        LinenBoard x = Edges.goodSeal();
        x.market(5, 5, 0);
        x.image();
        x.market(5, 6, 0);
        x.back();
        due("as good out", x.tried(-1, 0), 1);
    }

    @Edges.Says("BACK: all is so again.")
    static void p42back_finesAndClaimsAreSoAgain() {
        LinenBoard x = Edges.oneDie();
        Edges.inForce(x, "bounty 9;fine 4;");
        x.seal(0, 0, 0);
        x.seal(0, 0, 1);
        x.claim(0);
        x.image();
        x.undo(0);
        x.fined(1, 0, 0, 0, 1, 0, 0);
        x.back();
        due("paid", x.book(0), 9);
        due("came back", x.book(1), 0);
        due("fines", x.book(2), 0);
        due("fined", x.sealOf(1, 5), 0);
        due("undone", x.claimOf(0, 3), -1);
        due("it can be undone", x.undo(0), true);
        due("and fined", x.fined(1, 0, 0, 0, 1, 0, 0), 4);
    }

    @Edges.Says("BACK: all is so again.")
    static void p42back_lotsAreSoAgain() {
        LinenBoard x = new LinenBoard();
        x.lot(3);
        x.image();
        x.draw(0, 2, 0);
        x.count(0, 0, 1);
        x.back();
        due("drawn", x.lotOf(0, 1), 0);
        due("counted", x.lotOf(0, 2), 0);
        due("threads", x.lotOf(0, 3), 0);
        due("it can be drawn", x.draw(0, 3, 0), true);
        due("none is counted", x.lotOf(0, 2), 0);
    }

    @Edges.Says("BACK: all is so again.")
    static void p42back_countsAreSoAgain() {
        LinenBoard x = Edges.drawnLot(3, 3);
        x.count(0, 1, 50);
        x.image();
        x.count(0, 1, 60);
        x.count(0, 2, 60);
        x.back();
        due("counted", x.lotOf(0, 2), 1);
        due("threads", x.lotOf(0, 3), 50);
    }

    @Edges.Says("BACK: all is so again.")
    static void p42back_looksTradesAndSeedAreSoAgain() {
        LinenBoard x = Edges.goodSeal();
        x.person(0, 0);
        x.seed(1, 6);
        x.look(0);
        x.image();
        x.look(0);
        x.trade(1, 0, 60);
        x.seed(1, 0);
        x.back();
        due("looks", x.kind(0, 0), 1);
        due("no trade", x.doubt(0, 0, -1), 10);
        x.trade(1, 0, 60);
        due("6 pecks", x.doubt(0, 0, -1), 0);
    }

    @Edges.Says("BACK: all is so again.")
    static void p42back_actsAndForcesAreSoAgain() {
        LinenBoard x = Edges.oneWeb();
        Edges.inForce(x, "fee 3;");
        x.image();
        Edges.inForce(x, "fee 4;");
        x.back();
        due("fee", x.sum(0, 0, 0, 0), 3);
        due("force of the act that is gone", x.force(1, 0, 0), -1);
        Edges.inForce(x, "fee 5;");
        due("another one in its place", x.sum(0, 0, 0, 0), 5);
        x.back();
        due("fee once more", x.sum(0, 0, 0, 0), 3);
    }

    @Edges.Says("BACK: all is so again.")
    static void p42back_whatIsMadeAnewIsNotWhatIsGone() {
        LinenBoard x = Edges.oneDie();
        x.image();
        x.person(0, 0);
        x.seed(1, 99);
        x.die(0);
        x.flaw(1, 0, 0);
        x.seal(0, 0, 1);
        x.fined(0, 0, 0, 0, 1, 0, 0);
        x.back();
        x.person(0, 0);
        x.web(1);
        x.measure(1, 0, 100, 50, 10, 0);
        x.die(0);
        x.seal(1, 1, 0);
        due("no seed", x.doubt(1, 1, -1), 10);
        due("no flaw", x.sealOf(0, 3), 0);
        due("not fined", x.sealOf(0, 5), 0);
    }

    @Edges.Says("BACK: all is so again.")
    static void p42back_whatIsGoneCountsForNothing() {
        LinenBoard x = Edges.goodSeal();
        x.person(0, 0);
        x.image();
        Edges.inForce(x, "bounty 9;fine 7;");
        x.claim(0);
        x.trade(1, 0, 99);
        x.seal(0, 0, 1);
        x.look(1);
        x.fined(1, 0, 0, 0, 1, 0, 0);
        x.measure(0, 0, 30, 30, 30, 0);
        x.back();
        due("no claim", x.book(0), 0);
        due("no fine", x.book(2), 0);
        due("nor that of a person", x.book(10), 0);
        due("no trade", x.proof(0, 0, 1), 1);
        due("no look", x.kind(0, 0), 0);
        due("no measures", x.board(0, 0, 0, 0), 100);
        due("no bounty", x.sum(0, 0, 0, 1), 0);
        x.claim(0);
        due("none was paid", x.claimOf(0, 2), 0);
    }

    @Edges.Says("but the tape and the latest FAULT.")
    static void p42back_leavesTheTape() {
        LinenBoard x = new LinenBoard();
        x.feed(0, 0, 0, 0, 0);
        x.back();
        due("bytes of the tape", x.about(13), 20);
    }

    @Edges.Says("but the tape and the latest FAULT.")
    static void p42back_leavesTheLatestFault() {
        LinenBoard x = new LinenBoard();
        Edges.act(x, "fee;");
        x.back();
        due("the latest fault", x.fault(0), 1);
        due("its place", x.fault(1), 3);
    }

    // ---- promise 43

    @Edges.Says({"0 the clock, 1 TOWNS, 2 PERSONS, 3 DIES, 4 WEBS, 5 MEASURES, 6 ACTS, 7 FORCES, 8 SEALS, 9 LOOKS,"
        + " 10 CLAIMS, 11 TRADES, 12 LOTS, 13 bytes of the tape, 14 ALLOW."})
    static void p43about_eachNumberIsItsOwn() {
        LinenBoard x = Edges.persons(3);
        x.days(14);
        x.town(100);
        times(4, () -> x.die(0));
        times(5, () -> x.web(0));
        times(6, () -> x.measure(0, 0, 1, 1, 1, 0));
        times(7, x::act);
        times(8, () -> x.force(0, 14, 14));
        times(9, () -> x.seal(0, 0, 0));
        times(10, () -> x.look(0));
        times(11, () -> x.claim(0));
        times(12, () -> x.trade(0, 1, 1));
        times(1, () -> x.lot(1));
        x.feed(0, 0, 0, 0, 0);
        x.end(13);
        x.allow(0);
        int[] want = {14, 2, 3, 4, 5, 6, 7, 8, 9, 10, 11, 12, 1, 13, 0};
        for (int what = 0; what <= 14; what++) {
            due("about(" + what + ")", x.about(what), want[what]);
        }
    }

    private static void times(int n, Runnable call) {
        for (int i = 0; i < n; i++) {
            call.run();
        }
    }

    @Edges.Says("NONE for others.")
    static void p43about_minus1And15AreNone() {
        LinenBoard x = Edges.goodSeal();
        for (int what : new int[] {-1, 15, LOW, HIGH}) {
            due("about(" + what + ")", x.about(what), -1);
        }
    }

    public static void main(String[] args) {
        Edges.run(BoardEdgesTest.class);
    }
}
