/** Edges of promises 17 to 26: seals, looks, masters who are too kind, claims, fines, the book. */
public final class SealEdgesTest {
    private static final int LOW = Edges.LOW;
    private static final int HIGH = Edges.HIGH;

    private static void due(String what, long got, long want) {
        Edges.due(what, got, want);
    }

    private static void due(String what, boolean got, boolean want) {
        Edges.due(what, got, want);
    }

    // ---- promise 17

    @Edges.Says({"A SEAL: its number.", "SEALS 0 .. 79:"})
    static void p17seal_numbersFrom0To79() {
        LinenBoard x = Edges.oneDie();
        for (int i = 0; i <= 79; i++) {
            due("seal " + i, x.seal(0, 0, i), i);
        }
    }

    @Edges.Says("or if there are 80.")
    static void p17seal_the81stIsNone() {
        LinenBoard x = Edges.oneDie();
        for (int i = 0; i < 80; i++) {
            x.seal(0, 0, 0);
        }
        due("the 81st", x.seal(0, 0, 1), -1);
        due("about(8)", x.about(8), 80);
        due("sealOf(80, 0)", x.sealOf(80, 0), -1);
        due("the last is as it was", x.sealOf(79, 3), 0);
    }

    @Edges.Says({"NONE for others (flaws 0 .. 65535),", "with the FLAWS that are seen in it (a set)."})
    static void p17seal_flaws0IsTheLeast() {
        LinenBoard x = Edges.oneDie();
        due("seal(0, 0, 0)", x.seal(0, 0, 0), 0);
        due("just those of the die", x.sealOf(0, 3), 0);
    }

    @Edges.Says({"NONE for others (flaws 0 .. 65535),", "with the FLAWS that are seen in it (a set)."})
    static void p17seal_flaws65535IsTheMost() {
        LinenBoard x = Edges.oneDie();
        for (int flaw = 0; flaw < 16; flaw++) {
            x.flaw(0, flaw, 0);
        }
        due("seal(0, 0, 65535)", x.seal(0, 0, 65535), 0);
        due("just those of the die", x.sealOf(0, 3), 0);
    }

    @Edges.Says("NONE for others (flaws 0 .. 65535),")
    static void p17seal_flawsMinus1And65536AreNone() {
        LinenBoard x = Edges.oneDie();
        for (int flaws : new int[] {-1, 65536, LOW, HIGH}) {
            due("seal(0, 0, " + flaws + ")", x.seal(0, 0, flaws), -1);
        }
        due("about(8)", x.about(8), 0);
    }

    @Edges.Says("NONE for others (flaws 0 .. 65535),")
    static void p17seal_wantsADieThatIsThere() {
        LinenBoard x = Edges.oneDie();
        for (int die : new int[] {1, -1, 10, LOW, HIGH}) {
            due("seal(" + die + ", 0, 0)", x.seal(die, 0, 0), -1);
        }
        due("about(8)", x.about(8), 0);
    }

    @Edges.Says("NONE for others (flaws 0 .. 65535),")
    static void p17seal_wantsAWebThatIsThere() {
        LinenBoard x = Edges.oneDie();
        for (int web : new int[] {1, -1, 50, LOW, HIGH}) {
            due("seal(0, " + web + ", 0)", x.seal(0, web, 0), -1);
        }
        due("about(8)", x.about(8), 0);
    }

    @Edges.Says({"a WEB without MEASURES,", "on the clock's DAY a DIE on a WEB that has MEASURES then (as KNOWN then),"})
    static void p17seal_aWebWithoutMeasuresIsNone() {
        LinenBoard x = Edges.oneDie();
        x.web(0);
        due("seal(0, 1, 0)", x.seal(0, 1, 0), -1);
        due("about(8)", x.about(8), 0);
    }

    @Edges.Says({"a WEB without MEASURES,", "on the clock's DAY a DIE on a WEB that has MEASURES then (as KNOWN then),"})
    static void p17seal_aWebWithMeasuresFromALaterDayIsNone() {
        LinenBoard x = Edges.oneDie();
        x.web(0);
        x.measure(1, 1, 1, 1, 1, 0);
        due("on day 0", x.seal(0, 1, 0), -1);
        x.days(1);
        due("on day 1", x.seal(0, 1, 0), 0);
    }

    @Edges.Says("on the clock's DAY a DIE on a WEB")
    static void p17seal_isOnTheClocksDay() {
        LinenBoard x = Edges.oneDie();
        x.days(9);
        x.seal(0, 0, 0);
        x.days(1);
        due("its day", x.sealOf(0, 2), 9);
    }

    @Edges.Says("A SEAL: its number.")
    static void p17seal_aWebThatLacksIsSealedToo() {
        LinenBoard x = Edges.oneDie();
        Edges.inForce(x, "seal 1=2;");
        due("seal(0, 0, 0)", x.seal(0, 0, 0), 0);
        due("it isn't good", x.sealOf(0, 4), 0);
    }

    // ---- promise 18

    @Edges.Says("Of a SEAL: 0 its DIE, 1 WEB, 2 DAY,")
    static void p18sealOf_dieWebAndDay() {
        LinenBoard x = Edges.oneDie();
        x.die(0);
        x.die(0);
        x.web(0);
        x.measure(1, 0, 1, 1, 1, 0);
        x.days(3);
        x.seal(2, 1, 0);
        due("die", x.sealOf(0, 0), 2);
        due("web", x.sealOf(0, 1), 1);
        due("day", x.sealOf(0, 2), 3);
    }

    @Edges.Says("Of a SEAL: 0 its DIE, 1 WEB, 2 DAY,")
    static void p18sealOf_eachSealIsItsOwn() {
        LinenBoard x = Edges.oneDie();
        x.die(0);
        x.web(0);
        x.web(0);
        x.measure(2, 0, 50, 50, 10, 0);
        x.measure(1, 0, 60, 50, 10, 0);
        Edges.inForce(x, "seal width#60;");
        x.seal(1, 2, 0);
        x.days(3);
        x.flaw(1, 0, 2);
        x.seal(0, 1, 0);
        x.seal(1, 0, 1);
        x.days(1);
        x.seal(1, 0, 0);
        // die, web, day, forged, good
        int[][] want = {{1, 2, 0, 0, 1}, {0, 1, 3, 0, 0}, {1, 0, 3, 0, 1}, {1, 0, 4, 1, 0}};
        for (int seal = 0; seal < want.length; seal++) {
            for (int what = 0; what <= 4; what++) {
                due("sealOf(" + seal + ", " + what + ")", x.sealOf(seal, what), want[seal][what]);
            }
        }
    }

    @Edges.Says("NONE for others.")
    static void p18sealOf_otherQuestionsAreNone() {
        LinenBoard x = Edges.goodSeal();
        for (int what : new int[] {-1, 6, LOW, HIGH}) {
            due("sealOf(0, " + what + ")", x.sealOf(0, what), -1);
        }
    }

    @Edges.Says("NONE for others.")
    static void p18sealOf_wantsASealThatIsThere() {
        LinenBoard x = Edges.goodSeal();
        for (int seal : new int[] {1, -1, 80, LOW, HIGH}) {
            for (int what = 0; what <= 5; what++) {
                due("sealOf(" + seal + ", " + what + ")", x.sealOf(seal, what), -1);
            }
        }
    }

    private static final String FORGED = "FORGED: these aren't just those that the DIE has on that DAY (as far as is told now).";

    @Edges.Says({FORGED, "3 FORGED (1, 0),"})
    static void p18sealOf_forgedByAFlawTooMany() {
        LinenBoard x = Edges.oneDie();
        x.flaw(0, 2, 0);
        x.seal(0, 0, 4);
        x.seal(0, 0, 5);
        due("just those", x.sealOf(0, 3), 0);
        due("one too many", x.sealOf(1, 3), 1);
    }

    @Edges.Says({FORGED, "3 FORGED (1, 0),"})
    static void p18sealOf_forgedByAFlawTooFew() {
        LinenBoard x = Edges.oneDie();
        x.flaw(0, 2, 0);
        x.flaw(0, 0, 0);
        x.seal(0, 0, 4);
        x.seal(0, 0, 0);
        due("one too few", x.sealOf(0, 3), 1);
        due("none", x.sealOf(1, 3), 1);
    }

    @Edges.Says(FORGED)
    static void p18sealOf_aFlawFromThatDayCounts() {
        LinenBoard x = Edges.oneDie();
        x.days(5);
        x.flaw(0, 2, 5);
        x.seal(0, 0, 4);
        x.seal(0, 0, 0);
        due("with it", x.sealOf(0, 3), 0);
        due("without it", x.sealOf(1, 3), 1);
    }

    @Edges.Says(FORGED)
    static void p18sealOf_aFlawFromALaterDayDoesntCount() {
        LinenBoard x = Edges.oneDie();
        x.days(5);
        x.seal(0, 0, 4);
        x.seal(0, 0, 0);
        x.days(1);
        x.flaw(0, 2, 6);
        due("with it", x.sealOf(0, 3), 1);
        due("without it", x.sealOf(1, 3), 0);
    }

    @Edges.Says(FORGED)
    static void p18sealOf_aFlawToldLateCounts() {
        LinenBoard x = Edges.oneDie();
        x.days(5);
        x.seal(0, 0, 0);
        due("as far as is told then", x.sealOf(0, 3), 0);
        x.days(5);
        x.flaw(0, 2, 5);
        due("as far as is told now", x.sealOf(0, 3), 1);
    }

    @Edges.Says(FORGED)
    static void p18sealOf_flawsOfAnotherDieDontCount() {
        LinenBoard x = Edges.oneDie();
        x.die(0);
        x.flaw(1, 2, 0);
        x.seal(0, 0, 0);
        x.seal(1, 0, 0);
        due("by the one without", x.sealOf(0, 3), 0);
        due("by the other one", x.sealOf(1, 3), 1);
    }

    private static final String GOOD = "GOOD on DAY d as KNOWN on k: not FORGED, and the WEB lacks nothing"
        + " (by THE ACT of the SEAL's DAY, by MEASURES on the SEAL's DAY as KNOWN on k); it is of d or ahead.";

    @Edges.Says({GOOD, "4 GOOD on the clock's DAY as KNOWN now (1, 0),"})
    static void p18sealOf_goodOnItsOwnDay() {
        due("good", Edges.goodSeal().sealOf(0, 4), 1);
    }

    @Edges.Says({GOOD, "4 GOOD on the clock's DAY as KNOWN now (1, 0),"})
    static void p18sealOf_forgedIsNotGood() {
        due("good", Edges.forgedSeal().sealOf(0, 4), 0);
    }

    @Edges.Says(GOOD)
    static void p18sealOf_ofAWebThatLacksIsNotGood() {
        LinenBoard x = Edges.oneDie();
        Edges.inForce(x, "seal width>100;");
        x.seal(0, 0, 0);
        due("good", x.sealOf(0, 4), 0);
        due("forged", x.sealOf(0, 3), 0);
    }

    @Edges.Says(GOOD)
    static void p18sealOf_goodByTheActOfItsDay() {
        LinenBoard x = Edges.oneDie();
        x.days(4);
        x.force(Edges.act(x, "seal 1=2;"), 5, 5);
        x.seal(0, 0, 0);
        x.days(1);
        x.seal(0, 0, 0);
        x.days(1);
        x.seal(0, 0, 0);
        due("the one ahead of the act", x.sealOf(0, 4), 1);
        due("the one of its day", x.sealOf(1, 4), 0);
        due("the one behind it", x.sealOf(2, 4), 1);
    }

    @Edges.Says(GOOD)
    static void p18sealOf_anActToldBehindTheSealCounts() {
        LinenBoard x = Edges.goodSeal();
        x.force(Edges.act(x, "seal 1=2;"), 0, 0);
        due("good", x.sealOf(0, 4), 0);
        x.days(1);
        due("good on a later day", x.sealOf(0, 4), 0);
    }

    @Edges.Says(GOOD)
    static void p18sealOf_goodByMeasuresOnItsDay() {
        LinenBoard x = Edges.oneDie();
        Edges.inForce(x, "seal width=100;");
        x.days(5);
        x.seal(0, 0, 0);
        x.days(1);
        x.measure(0, 6, 99, 50, 10, 0);
        due("measures from a later day", x.sealOf(0, 4), 1);
        x.measure(0, 5, 99, 50, 10, 0);
        due("measures from its day, told late", x.sealOf(0, 4), 0);
        x.measure(0, 5, 100, 50, 10, 0);
        due("put right", x.sealOf(0, 4), 1);
    }

    @Edges.Says(GOOD)
    static void p18sealOf_dayAndSortAreThoseOfItsDay() {
        LinenBoard x = Edges.oneDie();
        Edges.inForce(x, "seal day=2 and sort=7;sort 7 day=2;");
        x.days(2);
        x.seal(0, 0, 0);
        x.days(1);
        due("good", x.sealOf(0, 4), 1);
        x.seal(0, 0, 0);
        due("good on day 3", x.sealOf(1, 4), 0);
    }

    @Edges.Says("5 FINED (1, 0).")
    static void p18sealOf_fined() {
        LinenBoard x = Edges.forgedSeal();
        x.seal(0, 0, 1);
        due("ahead of it", x.sealOf(0, 5), 0);
        x.fined(0, 0, 0, 0, 1, 0, 0);
        due("behind it", x.sealOf(0, 5), 1);
        due("the other one", x.sealOf(1, 5), 0);
    }

    // ---- promise 19

    @Edges.Says({"A LOOK: BAD 1, 0 not.", "at a SEAL, on the clock's DAY: BAD if it isn't GOOD then."})
    static void p19look_badIfItIsntGood() {
        LinenBoard x = Edges.goodSeal();
        x.seal(0, 0, 1);
        due("the good one", x.look(0), 0);
        due("the forged one", x.look(1), 1);
        Edges.inForce(x, "seal 1=2;");
        due("the one that lacks", x.look(0), 1);
    }

    @Edges.Says("at a SEAL, on the clock's DAY: BAD if it isn't GOOD then.")
    static void p19look_whatItWasThenStays() {
        LinenBoard x = Edges.goodSeal();
        x.look(0);
        x.flaw(0, 0, 0);
        due("k", x.kind(0, 1), 0);
        due("a later look", x.look(0), 1);
        due("k by both", x.kind(0, 1), 1);
    }

    @Edges.Says({"or if there are 200.", "LOOKS (200 at most):"})
    static void p19look_the201stIsNone() {
        LinenBoard x = Edges.goodSeal();
        x.seal(0, 0, 1);
        for (int i = 1; i <= 200; i++) {
            due("look " + i, x.look(0), 0);
        }
        due("the 201st", x.look(1), -1);
        due("about(9)", x.about(9), 200);
        due("none of the latest was bad", x.kind(0, 1), 0);
    }

    @Edges.Says("NONE for others,")
    static void p19look_wantsASealThatIsThere() {
        LinenBoard x = Edges.goodSeal();
        for (int seal : new int[] {1, -1, 80, LOW, HIGH}) {
            due("look(" + seal + ")", x.look(seal), -1);
        }
        due("about(9)", x.about(9), 0);
        due("n", x.kind(0, 0), 0);
    }

    // ---- promise 20

    @Edges.Says({"ALLOW: true.", "each with ALLOW in 10 (0 .. 9; at first 1),"})
    static void p20allow_atFirst1() {
        due("about(14)", new LinenBoard().about(14), 1);
    }

    @Edges.Says({"ALLOW: true.", "each with ALLOW in 10 (0 .. 9; at first 1),"})
    static void p20allow_0IsTheLeast() {
        LinenBoard x = new LinenBoard();
        due("allow(0)", x.allow(0), true);
        due("about(14)", x.about(14), 0);
    }

    @Edges.Says({"ALLOW: true.", "each with ALLOW in 10 (0 .. 9; at first 1),"})
    static void p20allow_9IsTheMost() {
        LinenBoard x = new LinenBoard();
        due("allow(9)", x.allow(9), true);
        due("about(14)", x.about(14), 9);
    }

    @Edges.Says("False for others.")
    static void p20allow_minus1And10AreRefused() {
        LinenBoard x = new LinenBoard();
        x.allow(4);
        for (int v : new int[] {-1, 10, LOW, HIGH}) {
            due("allow(" + v + ")", x.allow(v), false);
        }
        due("about(14)", x.about(14), 4);
    }

    // ---- promise 21

    /** A good and a bad seal of person 0, so many looks at each, the bad ones first. */
    private static LinenBoard looked(int bad, int good) {
        LinenBoard x = Edges.goodSeal();
        x.seal(0, 0, 1);
        for (int i = 0; i < bad; i++) {
            x.look(1);
        }
        for (int i = 0; i < good; i++) {
            x.look(0);
        }
        return x;
    }

    @Edges.Says({"Of a MASTER: 0 n, 1 k, 2 THE CHANCE, 3 whether it is too KIND (1, 0).", "(all, if there are fewer; n)"})
    static void p21kind_withoutLooks() {
        LinenBoard x = Edges.goodSeal();
        due("n", x.kind(0, 0), 0);
        due("k", x.kind(0, 1), 0);
        due("the chance, over 1", x.kind(0, 2), 1);
        due("too kind", x.kind(0, 3), 0);
    }

    @Edges.Says("It is too KIND, if n is above 0,")
    static void p21kind_withoutLooksIsNotTooKind() {
        LinenBoard x = Edges.goodSeal();
        Edges.inForce(x, "level 100;");
        x.allow(0);
        due("too kind", x.kind(0, 3), 0);
    }

    @Edges.Says("KIND of a MASTER (a PERSON):")
    static void p21kind_aPersonWithoutDiesHasNoLooks() {
        LinenBoard x = Edges.onePerson();
        due("n", x.kind(0, 0), 0);
        due("k", x.kind(0, 1), 0);
        due("the chance", x.kind(0, 2), 1);
        due("too kind", x.kind(0, 3), 0);
    }

    @Edges.Says("NONE for others.")
    static void p21kind_wantsAPersonThatIsThere() {
        LinenBoard x = looked(1, 0);
        for (int person : new int[] {1, -1, 30, LOW, HIGH}) {
            for (int what = 0; what <= 3; what++) {
                due("kind(" + person + ", " + what + ")", x.kind(person, what), -1);
            }
        }
    }

    @Edges.Says("NONE for others.")
    static void p21kind_otherQuestionsAreNone() {
        LinenBoard x = looked(1, 0);
        for (int what : new int[] {-1, 4, LOW, HIGH}) {
            due("kind(0, " + what + ")", x.kind(0, what), -1);
        }
    }

    @Edges.Says("of the latest 12 LOOKS at SEALS by its DIES")
    static void p21kind_theLatest12Alone() {
        LinenBoard x = looked(1, 11);
        due("n of 12", x.kind(0, 0), 12);
        due("k of 12", x.kind(0, 1), 1);
        x.look(0);
        due("n of 13", x.kind(0, 0), 12);
        due("k of 13: the first has gone", x.kind(0, 1), 0);
    }

    @Edges.Says("(all, if there are fewer; n) k were BAD;")
    static void p21kind_allIfThereAreFewer() {
        LinenBoard x = looked(3, 8);
        due("n of 11", x.kind(0, 0), 11);
        due("k of 11", x.kind(0, 1), 3);
    }

    @Edges.Says("of the latest 12 LOOKS at SEALS by its DIES")
    static void p21kind_looksAtOthersDontCount() {
        LinenBoard x = looked(1, 0);
        x.person(0, 1);
        x.die(1);
        x.seal(1, 0, 0);
        for (int i = 0; i < 20; i++) {
            x.look(2);
        }
        due("n", x.kind(0, 0), 1);
        due("k", x.kind(0, 1), 1);
        due("n of the other one", x.kind(1, 0), 12);
        due("k of the other one", x.kind(1, 1), 0);
    }

    @Edges.Says("of the latest 12 LOOKS at SEALS by its DIES")
    static void p21kind_allDiesOfThePersonCount() {
        LinenBoard x = looked(1, 0);
        x.die(0);
        x.seal(1, 0, 1);
        x.look(2);
        due("n", x.kind(0, 0), 2);
        due("k", x.kind(0, 1), 2);
    }

    @Edges.Says("of the latest 12 LOOKS at SEALS by its DIES")
    static void p21kind_theDiesPersonNotTheWeaver() {
        LinenBoard x = Edges.oneWeb();
        x.person(0, 1);
        x.die(1);
        x.seal(0, 0, 1);
        x.look(0);
        due("n of the weaver", x.kind(0, 0), 0);
        due("n of the master", x.kind(1, 0), 1);
    }

    private static final String CHANCE = "THE CHANCE: of n looks k or more BAD, each with ALLOW in 10 (0 .. 9; at first 1),"
        + " by itself, as a number over 10 to the n.";

    @Edges.Says(CHANCE)
    static void p21kind_theChanceOf0OrMoreIsAll() {
        due("n 1", looked(0, 1).kind(0, 2), 10);
        due("n 12", looked(0, 12).kind(0, 2), 1000000000000L);
    }

    @Edges.Says(CHANCE)
    static void p21kind_theChanceOfAllBad() {
        due("1 of 1", looked(1, 0).kind(0, 2), 1);
        due("2 of 2", looked(2, 0).kind(0, 2), 1);
        due("12 of 12", looked(12, 0).kind(0, 2), 1);
        LinenBoard x = looked(12, 0);
        x.allow(9);
        due("12 of 12 with 9 in 10", x.kind(0, 2), 282429536481L);
    }

    @Edges.Says(CHANCE)
    static void p21kind_theChanceOfSome() {
        // 1 or more of 2: 2 * 1 * 9 + 1; 2 or more of 3: 3 * 1 * 9 + 1; 11 or more of 12: 12 * 9 + 1
        due("1 of 2", looked(1, 1).kind(0, 2), 19);
        due("2 of 3", looked(2, 1).kind(0, 2), 28);
        due("11 of 12", looked(11, 1).kind(0, 2), 109);
        // 6 or more of 12 with 5 in 10: the half of all and half of those with just 6, 924 of 4096
        LinenBoard x = looked(6, 6);
        x.allow(5);
        due("6 of 12", x.kind(0, 2), 244140625L * (2048 + 462));
    }

    @Edges.Says(CHANCE)
    static void p21kind_allow0IsTheLeastChance() {
        LinenBoard x = looked(0, 3);
        x.allow(0);
        due("0 of 3", x.kind(0, 2), 1000);
        LinenBoard y = looked(1, 2);
        y.allow(0);
        due("1 of 3", y.kind(0, 2), 0);
    }

    @Edges.Says(CHANCE)
    static void p21kind_allowAsItIsNow() {
        LinenBoard x = looked(1, 0);
        x.allow(7);
        due("with 7 in 10", x.kind(0, 2), 7);
        x.allow(2);
        due("with 2 in 10", x.kind(0, 2), 2);
    }

    private static final String TOO_KIND = "and 100 times that is less than LEVEL (of the clock's DAY) times 10 to the n.";

    @Edges.Says(TOO_KIND)
    static void p21kind_asMuchAsLevelIsNotLess() {
        LinenBoard x = looked(1, 0);
        Edges.inForce(x, "level 10;");
        due("100 less than 10 * 10", x.kind(0, 3), 0);
        Edges.inForce(x, "level 11;");
        due("100 less than 11 * 10", x.kind(0, 3), 1);
        Edges.inForce(x, "level 9;");
        due("100 less than 9 * 10", x.kind(0, 3), 0);
    }

    @Edges.Says(TOO_KIND)
    static void p21kind_level5Untold() {
        due("100 less than 5 * 10", looked(1, 0).kind(0, 3), 0);
        due("100 less than 5 * 100", looked(2, 0).kind(0, 3), 1);
    }

    @Edges.Says(TOO_KIND)
    static void p21kind_level0IsNeverTooKind() {
        LinenBoard x = looked(12, 0);
        x.allow(0);
        due("0 less than 5 * 10 to the 12", x.kind(0, 3), 1);
        Edges.inForce(x, "level 0;");
        due("0 less than 0", x.kind(0, 3), 0);
    }

    @Edges.Says(TOO_KIND)
    static void p21kind_level100AndNoneBad() {
        LinenBoard x = looked(0, 12);
        Edges.inForce(x, "level 100;");
        due("all less than all", x.kind(0, 3), 0);
        LinenBoard y = looked(1, 11);
        y.allow(9);
        Edges.inForce(y, "level 100;");
        due("all but 1 less than all", y.kind(0, 3), 1);
    }

    @Edges.Says("LEVEL (of the clock's DAY)")
    static void p21kind_levelOfTheClocksDay() {
        LinenBoard x = looked(1, 0);
        x.force(Edges.act(x, "level 11;"), 1, 1);
        due("on day 0", x.kind(0, 3), 0);
        x.days(1);
        due("on day 1", x.kind(0, 3), 1);
        x.days(1);
        due("on day 2", x.kind(0, 3), 0);
    }

    // ---- promise 22

    @Edges.Says({"A CLAIM: its number.", "CLAIMS 0 .. 79, on the clock's DAY, of a WEB: told, whatever they are."})
    static void p22claim_numbersFrom0To79() {
        LinenBoard x = Edges.onePerson();
        x.web(0);
        for (int i = 0; i <= 79; i++) {
            due("claim " + i, x.claim(0), i);
        }
    }

    @Edges.Says("or if there are 80.")
    static void p22claim_the81stIsNone() {
        LinenBoard x = Edges.goodSeal();
        x.web(0);
        Edges.inForce(x, "bounty 7;");
        for (int i = 0; i < 80; i++) {
            x.claim(1);
        }
        due("the 81st", x.claim(0), -1);
        due("about(10)", x.about(10), 80);
        due("nothing is paid", x.book(0), 0);
    }

    @Edges.Says("NONE for others,")
    static void p22claim_wantsAWebThatIsThere() {
        LinenBoard x = Edges.goodSeal();
        for (int web : new int[] {1, -1, 50, LOW, HIGH}) {
            due("claim(" + web + ")", x.claim(web), -1);
        }
        due("about(10)", x.about(10), 0);
    }

    @Edges.Says({"of a WEB: told, whatever they are.", "PAID: if it has a GOOD SEAL then (as KNOWN then)"})
    static void p22claim_withoutASealIsToldAndNotPaid() {
        LinenBoard x = Edges.oneDie();
        Edges.inForce(x, "bounty 7;");
        due("claim(0)", x.claim(0), 0);
        due("paid", x.claimOf(0, 2), -1);
        due("about(10)", x.about(10), 1);
    }

    @Edges.Says("PAID: if it has a GOOD SEAL then (as KNOWN then)")
    static void p22claim_withoutMeasuresIsToldAndNotPaid() {
        LinenBoard x = Edges.onePerson();
        x.web(0);
        due("claim(0)", x.claim(0), 0);
        due("paid", x.claimOf(0, 2), -1);
    }

    @Edges.Says("PAID: if it has a GOOD SEAL then (as KNOWN then)")
    static void p22claim_withABadSealIsNotPaid() {
        LinenBoard x = Edges.forgedSeal();
        Edges.inForce(x, "bounty 7;");
        x.claim(0);
        due("paid by a forged one", x.claimOf(0, 2), -1);
        x.seal(0, 0, 0);
        x.claim(0);
        due("paid by a good one beside it", x.claimOf(1, 2), 7);
    }

    @Edges.Says("PAID: if it has a GOOD SEAL then (as KNOWN then)")
    static void p22claim_asKnownThen() {
        LinenBoard x = Edges.goodSeal();
        Edges.inForce(x, "bounty 7;");
        x.claim(0);
        x.flaw(0, 0, 0);
        due("the seal isn't good now", x.sealOf(0, 4), 0);
        due("what was paid stays", x.claimOf(0, 2), 7);
        due("the book", x.book(0), 7);
    }

    @Edges.Says("PAID: if it has a GOOD SEAL then (as KNOWN then)")
    static void p22claim_aSealOfAnotherWebDoesntCount() {
        LinenBoard x = Edges.goodSeal();
        x.web(0);
        x.measure(1, 0, 100, 50, 10, 0);
        x.claim(1);
        due("paid", x.claimOf(0, 2), -1);
    }

    @Edges.Says("and no CLAIM of it stands that was PAID:")
    static void p22claim_isPaidOnce() {
        LinenBoard x = Edges.goodSeal();
        Edges.inForce(x, "bounty 7;");
        x.claim(0);
        x.claim(0);
        due("the first", x.claimOf(0, 2), 7);
        due("the second", x.claimOf(1, 2), -1);
    }

    @Edges.Says("and no CLAIM of it stands that was PAID:")
    static void p22claim_oneThatWasntPaidDoesntHinder() {
        LinenBoard x = Edges.oneDie();
        x.claim(0);
        x.seal(0, 0, 0);
        x.claim(0);
        due("the second", x.claimOf(1, 2), 0);
    }

    @Edges.Says("and no CLAIM of it stands that was PAID:")
    static void p22claim_oneOfAnotherWebDoesntHinder() {
        LinenBoard x = Edges.goodSeal();
        x.web(0);
        x.measure(1, 0, 1, 1, 1, 0);
        x.seal(0, 1, 0);
        Edges.inForce(x, "bounty 7;");
        x.claim(1);
        x.claim(0);
        due("of web 1", x.claimOf(0, 2), 7);
        due("of web 0", x.claimOf(1, 2), 7);
    }

    @Edges.Says("BOUNTY less FEE of that DAY (by MEASURES on that DAY as KNOWN then), 0 at least.")
    static void p22claim_0AtLeast() {
        int[][] rows = {{7, 6, 1}, {7, 7, 0}, {7, 8, 0}, {0, 9999, 0}};
        for (int[] row : rows) {
            LinenBoard x = Edges.goodSeal();
            Edges.inForce(x, "bounty " + row[0] + ";fee " + row[1] + ";");
            x.claim(0);
            due(row[0] + " less " + row[1], x.claimOf(0, 2), row[2]);
        }
    }

    @Edges.Says("and no CLAIM of it stands that was PAID:")
    static void p22claim_onePaid0StandsToo() {
        LinenBoard x = Edges.goodSeal();
        x.claim(0);
        due("the first", x.claimOf(0, 2), 0);
        Edges.inForce(x, "bounty 7;");
        x.claim(0);
        due("the second", x.claimOf(1, 2), -1);
        due("the first can be undone", x.undo(0), true);
        x.claim(0);
        due("the third", x.claimOf(2, 2), 7);
    }

    @Edges.Says("BOUNTY less FEE of that DAY (by MEASURES on that DAY as KNOWN then), 0 at least.")
    static void p22claim_ofThatDayNotTheSeals() {
        LinenBoard x = Edges.goodSeal();
        x.force(Edges.act(x, "bounty width;fee 1;"), 3, 3);
        x.days(3);
        x.measure(0, 3, 60, 50, 10, 0);
        x.measure(0, 4, 70, 50, 10, 0);
        x.claim(0);
        due("paid", x.claimOf(0, 2), 59);
    }

    @Edges.Says("then another one can be PAID.")
    static void p22claim_undoneAnotherOneCanBePaid() {
        LinenBoard x = Edges.goodSeal();
        Edges.inForce(x, "bounty 7;");
        x.claim(0);
        x.claim(0);
        x.undo(0);
        due("the one between stays as it is", x.claimOf(1, 2), -1);
        x.claim(0);
        due("another one", x.claimOf(2, 2), 7);
        x.claim(0);
        due("and no more", x.claimOf(3, 2), -1);
    }

    @Edges.Says("BOUNTY less FEE of that DAY (by MEASURES on that DAY as KNOWN then), 0 at least.")
    static void p22claim_theMostThatCanBePaid() {
        LinenBoard x = Edges.goodSeal();
        Edges.inForce(x, "bounty 9999*9999*9999;");
        x.claim(0);
        due("paid", x.claimOf(0, 2), 1000000000);
        LinenBoard y = Edges.goodSeal();
        Edges.inForce(y, "fee 9999*9999*9999;");
        y.claim(0);
        due("0 less 1000000000", y.claimOf(0, 2), 0);
    }

    // ---- promise 23

    @Edges.Says({"Of a CLAIM: 0 its WEB, 1 its DAY, 2 what was PAID (NONE: it wasn't),", "3 the DAY on which it was UNDONE (NONE)."})
    static void p23claimOf_webDayPaidUndone() {
        LinenBoard x = Edges.oneDie();
        x.web(0);
        x.measure(1, 0, 1, 1, 1, 0);
        x.seal(0, 1, 0);
        Edges.inForce(x, "bounty 7;");
        x.days(3);
        x.claim(1);
        int[] want = {1, 3, 7, -1};
        for (int what = 0; what <= 3; what++) {
            due("claimOf(0, " + what + ")", x.claimOf(0, what), want[what]);
        }
    }

    @Edges.Says("2 what was PAID (NONE: it wasn't),")
    static void p23claimOf_notPaidIsNone() {
        LinenBoard x = Edges.oneWeb();
        x.claim(0);
        int[] want = {0, 0, -1, -1};
        for (int what = 0; what <= 3; what++) {
            due("claimOf(0, " + what + ")", x.claimOf(0, what), want[what]);
        }
    }

    @Edges.Says("2 what was PAID (NONE: it wasn't),")
    static void p23claimOf_paid0IsNotNone() {
        LinenBoard x = Edges.goodSeal();
        x.claim(0);
        due("paid", x.claimOf(0, 2), 0);
    }

    @Edges.Says("3 the DAY on which it was UNDONE (NONE).")
    static void p23claimOf_undoneOnADay() {
        LinenBoard x = Edges.goodSeal();
        Edges.inForce(x, "bounty 7;");
        x.claim(0);
        x.days(4);
        x.undo(0);
        x.days(1);
        due("undone", x.claimOf(0, 3), 4);
        due("its day", x.claimOf(0, 1), 0);
        due("what was paid", x.claimOf(0, 2), 7);
    }

    @Edges.Says("3 the DAY on which it was UNDONE (NONE).")
    static void p23claimOf_undoneOnDay0() {
        LinenBoard x = Edges.goodSeal();
        x.claim(0);
        x.undo(0);
        due("undone", x.claimOf(0, 3), 0);
    }

    @Edges.Says("NONE for others.")
    static void p23claimOf_otherQuestionsAreNone() {
        LinenBoard x = Edges.goodSeal();
        x.claim(0);
        for (int what : new int[] {-1, 4, LOW, HIGH}) {
            due("claimOf(0, " + what + ")", x.claimOf(0, what), -1);
        }
    }

    @Edges.Says("NONE for others.")
    static void p23claimOf_wantsAClaimThatIsThere() {
        LinenBoard x = Edges.goodSeal();
        x.claim(0);
        for (int claim : new int[] {1, -1, 80, LOW, HIGH}) {
            for (int what = 0; what <= 3; what++) {
                due("claimOf(" + claim + ", " + what + ")", x.claimOf(claim, what), -1);
            }
        }
    }

    // ---- promise 24

    @Edges.Says({"UNDONE: true.", "UNDONE by appeal, on a DAY: it stands no more (what was PAID comes back);"})
    static void p24undo_whatWasPaidComesBack() {
        LinenBoard x = Edges.goodSeal();
        Edges.inForce(x, "bounty 7;");
        x.claim(0);
        due("undo(0)", x.undo(0), true);
        due("stands", x.book(0), 0);
        due("came back", x.book(1), 7);
    }

    @Edges.Says("False for others,")
    static void p24undo_wantsAClaimThatIsThere() {
        LinenBoard x = Edges.goodSeal();
        x.claim(0);
        for (int claim : new int[] {1, -1, 80, LOW, HIGH}) {
            due("undo(" + claim + ")", x.undo(claim), false);
        }
        due("undone", x.claimOf(0, 3), -1);
    }

    @Edges.Says("one that wasn't PAID,")
    static void p24undo_oneThatWasntPaidIsRefused() {
        LinenBoard x = Edges.oneWeb();
        x.claim(0);
        due("undo(0)", x.undo(0), false);
        due("undone", x.claimOf(0, 3), -1);
        due("came back", x.book(1), 0);
    }

    @Edges.Says("or that is UNDONE.")
    static void p24undo_oneThatIsUndoneIsRefused() {
        LinenBoard x = Edges.goodSeal();
        Edges.inForce(x, "bounty 7;");
        x.claim(0);
        x.undo(0);
        x.days(1);
        due("undo(0)", x.undo(0), false);
        due("undone", x.claimOf(0, 3), 0);
        due("came back", x.book(1), 7);
    }

    // ---- promise 25

    private static LinenBoard threePersons(String fine) {
        LinenBoard x = Edges.forgedSeal();
        x.person(0, 1);
        x.person(0, 2);
        Edges.inForce(x, "fine " + fine + ";");
        return x;
    }

    private static final String SHARES = "parted among three by shares (0 .. 9 each, not all 0):";
    private static final String PARTS = "each FINE * share / all shares, cut, the first one what is left over besides.";
    private static final String FINED_NONE = "NONE for others, a SEAL that is GOOD, one that was FINED, a WEB without MEASURES.";

    @Edges.Says("FINED: the FINE.")
    static void p25fined_answersTheFine() {
        LinenBoard x = threePersons("41");
        due("fined", x.fined(0, 0, 1, 2, 1, 1, 1), 41);
        due("the book", x.book(2), 41);
    }

    @Edges.Says(SHARES)
    static void p25fined_share0IsTheLeast() {
        LinenBoard x = threePersons("41");
        due("fined", x.fined(0, 0, 1, 2, 0, 0, 1), 41);
        due("first", x.book(10), 0);
        due("second", x.book(11), 0);
        due("third", x.book(12), 41);
    }

    @Edges.Says(SHARES)
    static void p25fined_share9IsTheMost() {
        LinenBoard x = threePersons("27");
        due("fined", x.fined(0, 0, 1, 2, 9, 9, 9), 27);
        due("first", x.book(10), 9);
        due("second", x.book(11), 9);
        due("third", x.book(12), 9);
    }

    @Edges.Says({SHARES, FINED_NONE})
    static void p25fined_sharesMinus1And10AreNone() {
        LinenBoard x = threePersons("41");
        for (int share : new int[] {-1, 10, LOW, HIGH}) {
            due("a " + share, x.fined(0, 0, 1, 2, share, 1, 1), -1);
            due("b " + share, x.fined(0, 0, 1, 2, 1, share, 1), -1);
            due("c " + share, x.fined(0, 0, 1, 2, 1, 1, share), -1);
        }
        due("it isn't fined", x.sealOf(0, 5), 0);
        due("the book", x.book(2), 0);
    }

    @Edges.Says({SHARES, FINED_NONE})
    static void p25fined_sharesAll0AreNone() {
        LinenBoard x = threePersons("41");
        due("0 0 0", x.fined(0, 0, 1, 2, 0, 0, 0), -1);
        due("it isn't fined", x.sealOf(0, 5), 0);
        due("0 1 0", x.fined(0, 0, 1, 2, 0, 1, 0), 41);
    }

    @Edges.Says(SHARES)
    static void p25fined_oneOrTwoShares() {
        int[][] rows = {{4, 0, 0, 20, 0, 0}, {0, 4, 0, 0, 20, 0}, {0, 0, 4, 0, 0, 20}, {5, 5, 0, 10, 10, 0},
            {5, 0, 5, 10, 0, 10}, {0, 5, 5, 0, 10, 10}, {9, 1, 0, 18, 2, 0}, {2, 3, 5, 4, 6, 10}};
        for (int[] row : rows) {
            LinenBoard x = threePersons("20");
            due("fined", x.fined(0, 0, 1, 2, row[0], row[1], row[2]), 20);
            for (int i = 0; i < 3; i++) {
                due("the part of " + i, x.book(10 + i), row[3 + i]);
            }
        }
    }

    @Edges.Says(PARTS)
    static void p25fined_theFirstHasWhatIsLeftOver() {
        LinenBoard x = threePersons("100");
        x.fined(0, 2, 1, 0, 1, 1, 1);
        due("first", x.book(12), 34);
        due("second", x.book(11), 33);
        due("third", x.book(10), 33);
    }

    @Edges.Says(PARTS)
    static void p25fined_theFirstHasItWithShare0Too() {
        LinenBoard x = threePersons("100");
        x.fined(0, 0, 1, 2, 0, 7, 4);
        // 100 * 7 / 11 = 63, 100 * 4 / 11 = 36
        due("first", x.book(10), 1);
        due("second", x.book(11), 63);
        due("third", x.book(12), 36);
    }

    @Edges.Says(PARTS)
    static void p25fined_aFineOf1GoesToTheFirst() {
        LinenBoard x = threePersons("1");
        x.fined(0, 0, 1, 2, 1, 9, 9);
        due("first", x.book(10), 1);
        due("second", x.book(11), 0);
        due("third", x.book(12), 0);
    }

    @Edges.Says(PARTS)
    static void p25fined_theLargestFineIsParted() {
        LinenBoard x = threePersons("9999*9999*9999");
        due("fined", x.fined(0, 0, 1, 2, 1, 9, 9), 1000000000);
        // 9000000000 / 19
        due("second", x.book(11), 473684210);
        due("third", x.book(12), 473684210);
        due("first", x.book(10), 1000000000 - 2 * 473684210);
    }

    @Edges.Says("parted among three")
    static void p25fined_onePersonMayHaveAllShares() {
        LinenBoard x = threePersons("100");
        due("fined", x.fined(0, 1, 1, 1, 3, 3, 1), 100);
        due("all of it", x.book(11), 100);
    }

    @Edges.Says(FINED_NONE)
    static void p25fined_wantsPersonsThatAreThere() {
        LinenBoard x = threePersons("100");
        for (int person : new int[] {3, -1, 30, LOW, HIGH}) {
            due("x " + person, x.fined(0, person, 1, 2, 1, 1, 1), -1);
            due("y " + person, x.fined(0, 0, person, 2, 1, 1, 1), -1);
            due("z " + person, x.fined(0, 0, 1, person, 1, 1, 1), -1);
        }
        due("it isn't fined", x.sealOf(0, 5), 0);
    }

    @Edges.Says(FINED_NONE)
    static void p25fined_wantsASealThatIsThere() {
        LinenBoard x = threePersons("100");
        for (int seal : new int[] {1, -1, 80, LOW, HIGH}) {
            due("seal " + seal, x.fined(seal, 0, 1, 2, 1, 1, 1), -1);
        }
        due("the book", x.book(2), 0);
    }

    @Edges.Says({FINED_NONE, "FINED: a SEAL that isn't GOOD (on the clock's DAY, as KNOWN then), once:"})
    static void p25fined_aGoodSealIsNone() {
        LinenBoard x = Edges.goodSeal();
        Edges.inForce(x, "fine 9;");
        due("a good one", x.fined(0, 0, 0, 0, 1, 0, 0), -1);
        due("it isn't fined", x.sealOf(0, 5), 0);
        x.flaw(0, 0, 0);
        due("as known then it isn't good", x.fined(0, 0, 0, 0, 1, 0, 0), 9);
    }

    @Edges.Says("FINED: a SEAL that isn't GOOD (on the clock's DAY, as KNOWN then), once:")
    static void p25fined_oneThatLacksIsFined() {
        LinenBoard x = Edges.goodSeal();
        Edges.inForce(x, "fine 9;seal 1=2;");
        due("fined", x.fined(0, 0, 0, 0, 1, 0, 0), 9);
    }

    @Edges.Says({FINED_NONE, "FINED: a SEAL that isn't GOOD (on the clock's DAY, as KNOWN then), once:"})
    static void p25fined_once() {
        LinenBoard x = threePersons("9");
        x.fined(0, 0, 1, 2, 1, 0, 0);
        due("again", x.fined(0, 0, 1, 2, 1, 0, 0), -1);
        due("the book", x.book(2), 9);
    }

    @Edges.Says({FINED_NONE, "FINED: a SEAL that isn't GOOD (on the clock's DAY, as KNOWN then), once:"})
    static void p25fined_aFineOf0CountsToo() {
        LinenBoard x = Edges.forgedSeal();
        due("without an act", x.fined(0, 0, 0, 0, 1, 0, 0), 0);
        due("it is fined", x.sealOf(0, 5), 1);
        Edges.inForce(x, "fine 9;");
        due("again", x.fined(0, 0, 0, 0, 1, 0, 0), -1);
        due("the book", x.book(2), 0);
    }

    @Edges.Says("FINE of that DAY (by its WEB's MEASURES on that DAY as KNOWN then),")
    static void p25fined_ofThatDayNotTheSeals() {
        LinenBoard x = Edges.forgedSeal();
        x.force(Edges.act(x, "fine width;"), 3, 3);
        x.days(3);
        x.measure(0, 3, 60, 50, 10, 0);
        x.measure(0, 4, 70, 50, 10, 0);
        due("fined", x.fined(0, 0, 0, 0, 1, 0, 0), 60);
    }

    @Edges.Says("FINE of that DAY (by its WEB's MEASURES on that DAY as KNOWN then),")
    static void p25fined_eachSealAndItsOwnWeb() {
        LinenBoard x = Edges.oneDie();
        x.person(0, 1);
        x.person(0, 2);
        for (int web = 1; web <= 3; web++) {
            x.web(0);
            x.measure(web, 0, 100, 50, 10 + web, 0);
        }
        Edges.inForce(x, "fine length;");
        x.seal(0, 3, 1);
        x.seal(0, 0, 1);
        x.seal(0, 2, 1);
        x.seal(0, 1, 0);
        due("seal 2 on web 2", x.fined(2, 0, 1, 2, 0, 0, 1), 12);
        due("seal 0 on web 3", x.fined(0, 2, 1, 0, 1, 0, 0), 13);
        due("seal 1 on web 0", x.fined(1, 1, 1, 1, 1, 0, 0), 10);
        due("seal 3 is good", x.fined(3, 0, 1, 2, 1, 0, 0), -1);
        int[] fined = {1, 1, 1, 0};
        for (int seal = 0; seal < 4; seal++) {
            due("sealOf(" + seal + ", 5)", x.sealOf(seal, 5), fined[seal]);
        }
        due("person 2", x.book(12), 25);
        due("person 1", x.book(11), 10);
        due("person 0", x.book(10), 0);
        due("all", x.book(2), 35);
    }

    @Edges.Says("FINED: a SEAL that isn't GOOD (on the clock's DAY, as KNOWN then), once:")
    static void p25fined_eachOf80Seals() {
        LinenBoard x = Edges.oneDie();
        Edges.inForce(x, "fine 3;");
        for (int i = 0; i < 80; i++) {
            x.seal(0, 0, 1);
        }
        for (int i = 0; i < 80; i++) {
            due("seal " + i, x.fined(i, 0, 0, 0, 1, 1, 1), 3);
        }
        due("the book", x.book(2), 240);
        due("the person", x.book(10), 240);
    }

    @Edges.Says(FINED_NONE)
    static void p25fined_noSealIsOnAWebWithoutMeasures() {
        LinenBoard x = Edges.oneDie();
        x.web(0);
        x.measure(1, 1, 1, 1, 1, 0);
        due("no seal yet", x.seal(0, 1, 1), -1);
        due("so none to be fined", x.fined(0, 0, 0, 0, 1, 0, 0), -1);
        x.days(1);
        x.seal(0, 1, 1);
        due("measures are never taken away", x.fined(0, 0, 0, 0, 1, 0, 0), 0);
    }

    // ---- promise 26

    @Edges.Says({"THE BOOK: PAID by CLAIMS that stand, what came back, fines.",
        "THE BOOK: 0 PAID by CLAIMS that stand, 1 what came back, 2 fines, 10 + p: what a PERSON got of fines."})
    static void p26book_isEmptyAtFirst() {
        LinenBoard x = Edges.onePerson();
        for (int what : new int[] {0, 1, 2, 10}) {
            due("book(" + what + ")", x.book(what), 0);
        }
    }

    @Edges.Says("0 PAID by CLAIMS that stand, 1 what came back,")
    static void p26book_claimsThatStandAndThatCameBack() {
        LinenBoard x = Edges.goodSeal();
        x.web(0);
        x.measure(1, 0, 1, 1, 1, 0);
        x.seal(0, 1, 0);
        Edges.inForce(x, "bounty length;");
        x.claim(0);
        x.claim(1);
        x.claim(1);
        due("both stand", x.book(0), 11);
        x.undo(0);
        due("one stands", x.book(0), 1);
        due("one came back", x.book(1), 10);
        x.claim(0);
        due("paid again", x.book(0), 11);
        due("what came back stays", x.book(1), 10);
    }

    @Edges.Says("0 PAID by CLAIMS that stand, 1 what came back, 2 fines, 10 + p: what a PERSON got of fines.")
    static void p26book_goesBeyond32Bits() {
        LinenBoard x = Edges.goodSeal();
        Edges.inForce(x, "bounty 9999*9999*9999;fine 9999*9999*9999;");
        for (int i = 0; i < 3; i++) {
            x.claim(0);
            x.undo(i);
            x.seal(0, 0, 1);
            x.fined(1 + i, 0, 0, 0, 1, 1, 1);
        }
        due("came back", x.book(1), 3000000000L);
        due("fines", x.book(2), 3000000000L);
        due("what the person got", x.book(10), 3000000000L);
        for (int i = 1; i <= 3; i++) {
            x.web(0);
            x.measure(i, 0, 1, 1, 1, 0);
            x.seal(0, i, 0);
            x.claim(i);
        }
        due("stands", x.book(0), 3000000000L);
    }

    @Edges.Says("10 + p: what a PERSON got of fines.")
    static void p26book_ofPerson29() {
        LinenBoard x = Edges.persons(30);
        x.web(0);
        x.measure(0, 0, 1, 1, 1, 0);
        x.die(0);
        x.seal(0, 0, 1);
        Edges.inForce(x, "fine 9;");
        x.fined(0, 29, 0, 28, 4, 3, 2);
        due("book(39)", x.book(39), 4);
        due("book(10)", x.book(10), 3);
        due("book(38)", x.book(38), 2);
        due("book(11)", x.book(11), 0);
        due("book(40)", x.book(40), -1);
    }

    @Edges.Says("NONE for others.")
    static void p26book_othersAreNone() {
        LinenBoard x = Edges.onePerson();
        for (int what : new int[] {-1, 3, 4, 9, 11, 39, 40, LOW, LOW + 10, HIGH}) {
            due("book(" + what + ")", x.book(what), -1);
        }
    }

    public static void main(String[] args) {
        Edges.run(SealEdgesTest.class);
    }
}
