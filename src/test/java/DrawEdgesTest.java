/** Edges of promises 32 to 40: prizes, ways, lots of hanks, the market, an act tried. */
public final class DrawEdgesTest {
    private static final int LOW = Edges.LOW;
    private static final int HIGH = Edges.HIGH;
    private static final int[] SEEDS = {0, 1, -1, 7, LOW, HIGH, 123456789, -987654321};

    private static void due(String what, long got, long want) {
        Edges.due(what, got, want);
    }

    private static void due(String what, boolean got, boolean want) {
        Edges.due(what, got, want);
    }

    /** The row by the document's words, in numbers without sign. */
    private static int[] row(int n, int seed) {
        int[] places = new int[n];
        for (int i = 0; i < n; i++) {
            places[i] = i;
        }
        long s = seed & 0xffffffffL;
        for (int i = 0; i < n; i++) {
            s = (s * 1103515245L + 12345L) % 4294967296L;
            int other = i + (int) (s / 65536 % (n - i));
            int kept = places[i];
            places[i] = places[other];
            places[other] = kept;
        }
        return places;
    }

    private static final String DRAWS = "DRAWS by a seed: of a row of n things by rising numbers, for i from 0 on:"
        + " s becomes s * 1103515245 + 12345 (32 bits, s the seed at first),"
        + " place i changes with place i + (s >>> 16) % (n - i).";

    // ---- promise 32

    private static final String PRIZES = "PRIZES: of PERSONS for whom prize is so (on the clock's DAY), drawn all:"
        + " the first m of these in that row, but none of a KIN that has one already.";
    private static final String ITH = "The i-th PERSON with one of m PRIZES (1 .. 30) by a seed.";

    @Edges.Says({ITH, DRAWS})
    static void p32prize_inTheRowThatWasDrawn() {
        LinenBoard x = Edges.persons(10);
        for (int seed : SEEDS) {
            int[] want = row(10, seed);
            for (int i = 0; i < 10; i++) {
                due("prize(10, " + seed + ", " + i + ")", x.prize(10, seed, i), want[i]);
            }
        }
    }

    @Edges.Says(ITH)
    static void p32prize_1IsTheLeast() {
        LinenBoard x = Edges.persons(3);
        due("prize(1, 0, 0)", x.prize(1, 0, 0), row(3, 0)[0]);
        due("prize(1, 0, 1)", x.prize(1, 0, 1), -1);
    }

    @Edges.Says(ITH)
    static void p32prize_30IsTheMost() {
        LinenBoard x = Edges.persons(3);
        due("prize(30, 0, 2)", x.prize(30, 0, 2), row(3, 0)[2]);
    }

    @Edges.Says("NONE if there is none such, and for others.")
    static void p32prize_0And31PrizesAreNone() {
        LinenBoard x = Edges.persons(3);
        for (int m : new int[] {0, -1, 31, LOW, HIGH}) {
            due("prize(" + m + ", 0, 0)", x.prize(m, 0, 0), -1);
        }
    }

    @Edges.Says("NONE if there is none such, and for others.")
    static void p32prize_theLastOfMIsMLess1() {
        LinenBoard x = Edges.persons(5);
        for (int m = 1; m <= 5; m++) {
            due("prize(" + m + ", 7, " + (m - 1) + ")", x.prize(m, 7, m - 1), row(5, 7)[m - 1]);
            due("prize(" + m + ", 7, " + m + ")", x.prize(m, 7, m), -1);
        }
    }

    @Edges.Says("NONE if there is none such, and for others.")
    static void p32prize_iBelow0IsNone() {
        LinenBoard x = Edges.persons(5);
        due("prize(5, 0, -1)", x.prize(5, 0, -1), -1);
        due("prize(5, 0, LOW)", x.prize(5, 0, LOW), -1);
        due("prize(5, 0, HIGH)", x.prize(5, 0, HIGH), -1);
    }

    @Edges.Says("NONE if there is none such, and for others.")
    static void p32prize_fewerPersonsThanPrizes() {
        LinenBoard x = Edges.persons(2);
        due("prize(3, 0, 1)", x.prize(3, 0, 1), row(2, 0)[1]);
        due("prize(3, 0, 2)", x.prize(3, 0, 2), -1);
        due("without persons", new LinenBoard().prize(1, 0, 0), -1);
    }

    @Edges.Says("but none of a KIN that has one already.")
    static void p32prize_oneOfEachKin() {
        LinenBoard x = Edges.persons(30);
        // Thirty persons of ten kins: ten prizes, each of another kin, as they come in the row.
        for (int seed : SEEDS) {
            int won = 0;
            int kins = 0;
            for (int person : row(30, seed)) {
                if ((kins >> person % 10 & 1) == 0) {
                    due("prize(30, " + seed + ", " + won + ")", x.prize(30, seed, won), person);
                    kins |= 1 << person % 10;
                    won++;
                }
            }
            due("prize(30, " + seed + ", 10)", x.prize(30, seed, 10), -1);
        }
    }

    @Edges.Says("but none of a KIN that has one already.")
    static void p32prize_kinLeftOutMakesRoomForTheNext() {
        LinenBoard x = new LinenBoard();
        x.town(100);
        x.person(0, 4);
        x.person(0, 4);
        x.person(0, 5);
        // By seed 0 three things stay as they are.
        due("row 0", row(3, 0)[0], 0);
        due("row 1", row(3, 0)[1], 1);
        due("the first prize", x.prize(2, 0, 0), 0);
        due("the second prize", x.prize(2, 0, 1), 2);
        due("no third", x.prize(3, 0, 2), -1);
    }

    @Edges.Says("but none of a KIN that has one already.")
    static void p32prize_allOfOneKin() {
        LinenBoard x = new LinenBoard();
        x.town(100);
        for (int i = 0; i < 5; i++) {
            x.person(0, 9);
        }
        due("the first", x.prize(5, 7, 0), row(5, 7)[0]);
        due("no second", x.prize(5, 7, 1), -1);
    }

    @Edges.Says({PRIZES, "Prize: one of them is so; without such an ACT all."})
    static void p32prize_forThoseForWhomOneIsSo() {
        LinenBoard x = new LinenBoard();
        x.town(100);
        x.town(100);
        x.town(100);
        for (int i = 0; i < 6; i++) {
            x.person(i % 3, i);
        }
        Edges.inForce(x, "prize town=2;prize 1=2;prize town=0;");
        // Persons 0, 2, 3, 5 in the row of four things.
        int[] who = {0, 2, 3, 5};
        for (int i = 0; i < 4; i++) {
            due("prize(6, 7, " + i + ")", x.prize(6, 7, i), who[row(4, 7)[i]]);
        }
        due("no fifth", x.prize(6, 7, 4), -1);
    }

    @Edges.Says("Prize: one of them is so; without such an ACT all.")
    static void p32prize_noneIfNoneIsSo() {
        LinenBoard x = Edges.persons(5);
        Edges.inForce(x, "prize 1=2;prize town=1;");
        due("prize(5, 0, 0)", x.prize(5, 0, 0), -1);
    }

    @Edges.Says("Prize: one of them is so; without such an ACT all.")
    static void p32prize_allWithoutSuchAnAct() {
        LinenBoard x = Edges.persons(5);
        Edges.inForce(x, "fee 1;seal 1=2;sort 1 1=2;");
        due("prize(5, 0, 4)", x.prize(5, 0, 4), row(5, 0)[4]);
    }

    @Edges.Says("of PERSONS for whom prize is so (on the clock's DAY),")
    static void p32prize_onTheClocksDay() {
        LinenBoard x = Edges.persons(2);
        x.force(Edges.act(x, "prize 1=2;"), 1, 1);
        due("on day 0", x.prize(2, 0, 0) >= 0, true);
        x.days(1);
        due("on day 1", x.prize(2, 0, 0), -1);
        x.days(1);
        due("on day 2", x.prize(2, 0, 0) >= 0, true);
        Edges.inForce(x, "prize day=2;");
        due("day is the clock's", x.prize(2, 0, 0) >= 0, true);
        x.days(1);
        due("day is the clock's then", x.prize(2, 0, 0), -1);
    }

    @Edges.Says({"in prize width to weeks are 0, town the PERSON's).", "in sort and prize 0),"})
    static void p32prize_widthToWeeksAndSortAre0() {
        LinenBoard x = Edges.oneWeb();
        Edges.inForce(x, "sort 3 1=1;prize width=0 and count=0 and length=0 and weeks=0 and sort=0;");
        due("the web has a width", x.board(0, 0, 0, 0), 100);
        due("the web has a sort", x.board(0, 0, 0, 4), 3);
        due("prize(1, 0, 0)", x.prize(1, 0, 0), 0);
    }

    @Edges.Says("town the PERSON's).")
    static void p32prize_townIsThePersons() {
        LinenBoard x = new LinenBoard();
        x.town(100);
        x.town(100);
        x.person(1, 0);
        x.person(0, 1);
        Edges.inForce(x, "prize town=1;");
        due("prize(2, 0, 0)", x.prize(2, 0, 0), 0);
        due("prize(2, 0, 1)", x.prize(2, 0, 1), -1);
    }

    // ---- promise 33

    @Edges.Says({"The i-th TOWN of a WAY by a seed.", "A WAY: the TOWNS, drawn all.", DRAWS})
    static void p33way_ofSixTowns() {
        LinenBoard x = new LinenBoard();
        for (int i = 0; i < 6; i++) {
            x.town(100);
        }
        for (int seed : SEEDS) {
            int[] want = row(6, seed);
            for (int i = 0; i < 6; i++) {
                due("way(" + seed + ", " + i + ")", x.way(seed, i), want[i]);
            }
        }
    }

    @Edges.Says(DRAWS)
    static void p33way_workedOutByHand() {
        LinenBoard x = new LinenBoard();
        for (int i = 0; i < 5; i++) {
            x.town(100);
        }
        // Of seed 0 the numbers above 16 bits are 0, 54236, 42756, 54885: by 5, 4, 3, 2 they leave 0, 0, 0, 1.
        int[] want = {0, 1, 2, 4, 3};
        for (int i = 0; i < 5; i++) {
            due("way(0, " + i + ")", x.way(0, i), want[i]);
        }
    }

    @Edges.Says("s becomes s * 1103515245 + 12345 (32 bits, s the seed at first),")
    static void p33way_wrapsAroundAt32BitsWithoutSign() {
        LinenBoard x = new LinenBoard();
        x.town(100);
        x.town(100);
        // Of seed -1: 4294967296 - 1103515245 + 12345 = 3191464396, 48697 above 16 bits, which is odd.
        due("way(-1, 0)", x.way(-1, 0), 1);
        due("way(-1, 1)", x.way(-1, 1), 0);
        due("way(0, 0)", x.way(0, 0), 0);
        due("way(0, 1)", x.way(0, 1), 1);
    }

    @Edges.Says("The i-th TOWN of a WAY by a seed.")
    static void p33way_ofOneTown() {
        LinenBoard x = new LinenBoard();
        x.town(100);
        for (int seed : SEEDS) {
            due("way(" + seed + ", 0)", x.way(seed, 0), 0);
            due("way(" + seed + ", 1)", x.way(seed, 1), -1);
        }
    }

    @Edges.Says("NONE if there is none such.")
    static void p33way_withoutTownsIsNone() {
        LinenBoard x = new LinenBoard();
        due("way(0, 0)", x.way(0, 0), -1);
        due("way(0, -1)", x.way(0, -1), -1);
    }

    @Edges.Says("NONE if there is none such.")
    static void p33way_otherPlacesAreNone() {
        LinenBoard x = new LinenBoard();
        x.town(100);
        x.town(100);
        x.town(100);
        due("way(0, 2)", x.way(0, 2), row(3, 0)[2]);
        for (int i : new int[] {3, 5, 39, 40, -1, LOW, HIGH}) {
            due("way(0, " + i + ")", x.way(0, i), -1);
        }
    }

    // ---- promise 34

    @Edges.Says({"A LOT of n hanks: its number.", "LOTS of hanks 0 .. 9: n (1 .. 40)."})
    static void p34lot_numbersFrom0To9() {
        LinenBoard x = new LinenBoard();
        for (int i = 0; i <= 9; i++) {
            due("lot " + i, x.lot(1 + i), i);
        }
    }

    @Edges.Says("or if there are 10.")
    static void p34lot_the11thIsNone() {
        LinenBoard x = new LinenBoard();
        for (int i = 0; i < 10; i++) {
            x.lot(7);
        }
        due("the 11th", x.lot(8), -1);
        due("about(12)", x.about(12), 10);
        due("lotOf(10, 0)", x.lotOf(10, 0), -1);
        due("the last is as it was", x.lotOf(9, 0), 7);
    }

    @Edges.Says("LOTS of hanks 0 .. 9: n (1 .. 40).")
    static void p34lot_1And40Hanks() {
        LinenBoard x = new LinenBoard();
        due("lot(1)", x.lot(1), 0);
        due("lot(40)", x.lot(40), 1);
        due("its hanks", x.lotOf(0, 0), 1);
        due("its hanks", x.lotOf(1, 0), 40);
    }

    @Edges.Says("NONE for others,")
    static void p34lot_0And41HanksAreNone() {
        LinenBoard x = new LinenBoard();
        for (int n : new int[] {0, -1, 41, LOW, HIGH}) {
            due("lot(" + n + ")", x.lot(n), -1);
        }
        due("about(12)", x.about(12), 0);
    }

    // ---- promise 35

    @Edges.Says({"m of a LOT are DRAWN by a seed: true.", DRAWS})
    static void p35draw_theFirstOfTheRow() {
        for (int seed : SEEDS) {
            LinenBoard x = new LinenBoard();
            x.lot(40);
            due("draw(0, 39, " + seed + ")", x.draw(0, 39, seed), true);
            int[] want = row(40, seed);
            for (int i = 0; i < 39; i++) {
                due("lotOf(0, " + (100 + i) + ") by seed " + seed, x.lotOf(0, 100 + i), want[i]);
            }
            due("the last isn't drawn", x.lotOf(0, 139), -1);
        }
    }

    @Edges.Says("m of them (1 to n) are DRAWN by a seed, once;")
    static void p35draw_1IsTheLeast() {
        LinenBoard x = new LinenBoard();
        x.lot(5);
        due("draw(0, 1, 7)", x.draw(0, 1, 7), true);
        due("drawn", x.lotOf(0, 1), 1);
        due("the first", x.lotOf(0, 100), row(5, 7)[0]);
        due("the second", x.lotOf(0, 101), -1);
    }

    @Edges.Says("m of them (1 to n) are DRAWN by a seed, once;")
    static void p35draw_allAreTheMost() {
        LinenBoard x = new LinenBoard();
        x.lot(40);
        x.lot(1);
        due("draw(0, 40, 7)", x.draw(0, 40, 7), true);
        due("the last", x.lotOf(0, 139), row(40, 7)[39]);
        due("draw(1, 1, 7)", x.draw(1, 1, 7), true);
        due("the only one", x.lotOf(1, 100), 0);
    }

    @Edges.Says("False for others,")
    static void p35draw_0AndMoreThanAllAreRefused() {
        LinenBoard x = new LinenBoard();
        x.lot(5);
        for (int m : new int[] {0, -1, 6, 40, LOW, HIGH}) {
            due("draw(0, " + m + ", 7)", x.draw(0, m, 7), false);
        }
        due("drawn", x.lotOf(0, 1), 0);
        due("it can be done yet", x.draw(0, 5, 7), true);
    }

    @Edges.Says("False for others,")
    static void p35draw_wantsALotThatIsThere() {
        LinenBoard x = new LinenBoard();
        x.lot(5);
        for (int lot : new int[] {1, -1, 10, LOW, HIGH}) {
            due("draw(" + lot + ", 1, 7)", x.draw(lot, 1, 7), false);
        }
        due("drawn", x.lotOf(0, 1), 0);
    }

    @Edges.Says("or it was done.")
    static void p35draw_once() {
        LinenBoard x = new LinenBoard();
        x.lot(5);
        x.lot(5);
        x.draw(0, 1, 7);
        x.count(0, row(5, 7)[0], 33);
        due("again", x.draw(0, 5, 8), false);
        due("drawn", x.lotOf(0, 1), 1);
        due("the first", x.lotOf(0, 100), row(5, 7)[0]);
        due("threads", x.lotOf(0, 3), 33);
        due("another lot", x.draw(1, 5, 8), true);
    }

    @Edges.Says("FULL of the LOT is HANK of that DAY, from then on.")
    static void p35draw_fullIsHankOfThatDay() {
        LinenBoard x = new LinenBoard();
        x.lot(2);
        x.lot(2);
        x.force(Edges.act(x, "hank 7;"), 1, 1);
        x.days(1);
        x.draw(0, 2, 0);
        x.days(1);
        x.draw(1, 2, 0);
        due("8 of 7", x.count(0, 0, 8), false);
        due("7 of 7", x.count(0, 0, 7), true);
        due("100 of 100", x.count(1, 0, 100), true);
        due("101 of 100", x.count(1, 0, 101), false);
        due("7 are missing at most", x.judge(0, 7), 0);
        due("more than 6", x.judge(0, 6), 1);
    }

    // ---- promise 36

    @Edges.Says({"A hank (0 .. n - 1) is counted (also anew): true.", "Each of these can be counted: 0 to FULL."})
    static void p36count_0IsTheLeast() {
        LinenBoard x = Edges.drawnLot(3, 3);
        due("count(0, 0, 0)", x.count(0, 0, 0), true);
        due("counted", x.lotOf(0, 2), 1);
        due("threads", x.lotOf(0, 3), 0);
    }

    @Edges.Says("Each of these can be counted: 0 to FULL.")
    static void p36count_fullIsTheMost() {
        LinenBoard x = Edges.drawnLot(3, 3);
        due("count(0, 0, 100)", x.count(0, 0, 100), true);
        due("threads", x.lotOf(0, 3), 100);
    }

    @Edges.Says({"False for others,", "Each of these can be counted: 0 to FULL."})
    static void p36count_minus1AndMoreThanFullAreRefused() {
        LinenBoard x = Edges.drawnLot(3, 3);
        x.count(0, 0, 50);
        for (int threads : new int[] {-1, 101, LOW, HIGH}) {
            due("count(0, 0, " + threads + ")", x.count(0, 0, threads), false);
            due("count(0, 1, " + threads + ")", x.count(0, 1, threads), false);
        }
        due("counted", x.lotOf(0, 2), 1);
        due("threads", x.lotOf(0, 3), 50);
    }

    @Edges.Says("A hank (0 .. n - 1) is counted (also anew): true.")
    static void p36count_theFirstAndTheLastHank() {
        LinenBoard x = Edges.drawnLot(40, 40);
        due("hank 0", x.count(0, 0, 1), true);
        due("hank 39", x.count(0, 39, 2), true);
        due("threads", x.lotOf(0, 3), 3);
    }

    @Edges.Says("False for others,")
    static void p36count_hanksMinus1AndNAreRefused() {
        LinenBoard x = Edges.drawnLot(3, 3);
        for (int hank : new int[] {-1, 3, 39, 40, LOW, HIGH}) {
            due("hank " + hank, x.count(0, hank, 0), false);
        }
        due("counted", x.lotOf(0, 2), 0);
    }

    @Edges.Says("A hank (0 .. n - 1) is counted (also anew): true.")
    static void p36count_anewTakesThePlace() {
        LinenBoard x = Edges.drawnLot(3, 3);
        x.count(0, 1, 60);
        due("anew", x.count(0, 1, 20), true);
        due("counted", x.lotOf(0, 2), 1);
        due("threads", x.lotOf(0, 3), 20);
    }

    @Edges.Says("or it isn't DRAWN.")
    static void p36count_oneThatIsntDrawnIsRefused() {
        LinenBoard x = Edges.drawnLot(5, 4);
        // By seed 0 the row is 0 1 2 4 3.
        due("hank 3", x.count(0, 3, 50), false);
        due("hank 4", x.count(0, 4, 50), true);
        due("counted", x.lotOf(0, 2), 1);
    }

    @Edges.Says("or it isn't DRAWN.")
    static void p36count_aheadOfTheDrawIsRefused() {
        LinenBoard x = new LinenBoard();
        x.lot(3);
        for (int hank = -1; hank <= 3; hank++) {
            due("hank " + hank, x.count(0, hank, 0), false);
        }
        due("counted", x.lotOf(0, 2), 0);
    }

    @Edges.Says("False for others,")
    static void p36count_wantsALotThatIsThere() {
        LinenBoard x = Edges.drawnLot(3, 3);
        for (int lot : new int[] {1, -1, 10, LOW, HIGH}) {
            due("count(" + lot + ", 0, 0)", x.count(lot, 0, 0), false);
        }
        due("counted", x.lotOf(0, 2), 0);
    }

    // ---- promise 37

    private static final String LOT_OF = "Of a LOT: 0 n, 1 how many are DRAWN, 2 of these counted, 3 the threads counted"
        + " together, 100 + i: the i-th that is DRAWN (as drawn).";

    @Edges.Says(LOT_OF)
    static void p37lotOf_aheadOfTheDraw() {
        LinenBoard x = new LinenBoard();
        x.lot(5);
        int[] want = {5, 0, 0, 0};
        for (int what = 0; what <= 3; what++) {
            due("lotOf(0, " + what + ")", x.lotOf(0, what), want[what]);
        }
        due("lotOf(0, 100)", x.lotOf(0, 100), -1);
        due("lotOf(0, 99)", x.lotOf(0, 99), -1);
    }

    @Edges.Says(LOT_OF)
    static void p37lotOf_behindIt() {
        LinenBoard x = Edges.drawnLot(5, 4);
        x.count(0, 2, 9);
        x.count(0, 4, 0);
        x.count(0, 0, 100);
        int[] want = {5, 4, 3, 109};
        for (int what = 0; what <= 3; what++) {
            due("lotOf(0, " + what + ")", x.lotOf(0, what), want[what]);
        }
    }

    @Edges.Says(LOT_OF)
    static void p37lotOf_asDrawn() {
        LinenBoard x = Edges.drawnLot(5, 4);
        int[] want = {0, 1, 2, 4, -1};
        for (int i = 0; i < want.length; i++) {
            due("lotOf(0, " + (100 + i) + ")", x.lotOf(0, 100 + i), want[i]);
        }
    }

    @Edges.Says(LOT_OF)
    static void p37lotOf_eachLotIsItsOwn() {
        LinenBoard x = new LinenBoard();
        x.lot(4);
        x.lot(5);
        x.lot(6);
        x.draw(2, 3, 7);
        x.draw(1, 5, -1);
        x.count(2, row(6, 7)[2], 40);
        x.count(1, 4, 70);
        x.count(1, 3, 20);
        int[][] want = {{4, 0, 0, 0}, {5, 5, 2, 90}, {6, 3, 1, 40}};
        for (int lot = 0; lot < 3; lot++) {
            for (int what = 0; what <= 3; what++) {
                due("lotOf(" + lot + ", " + what + ")", x.lotOf(lot, what), want[lot][what]);
            }
            int[] drawn = row(want[lot][0], lot == 2 ? 7 : -1);
            for (int i = 0; i < 6; i++) {
                due("lotOf(" + lot + ", " + (100 + i) + ")", x.lotOf(lot, 100 + i), i < want[lot][1] ? drawn[i] : -1);
            }
        }
        due("judge(0, 500)", x.judge(0, 500), -1);
        // 500 less 90, 300 of these uncounted; 600 less 40, 500 of these
        due("judge(1, 109)", x.judge(1, 109), 2);
        due("judge(1, 110)", x.judge(1, 110), 1);
        due("judge(1, 410)", x.judge(1, 410), 0);
        due("judge(2, 59)", x.judge(2, 59), 2);
        due("judge(2, 60)", x.judge(2, 60), 1);
        due("judge(2, 560)", x.judge(2, 560), 0);
    }

    @Edges.Says(LOT_OF)
    static void p37lotOf_theMostThreads() {
        LinenBoard x = new LinenBoard();
        Edges.inForce(x, "hank 500;");
        x.lot(40);
        x.draw(0, 40, 0);
        for (int i = 0; i < 40; i++) {
            x.count(0, i, 500);
        }
        due("threads", x.lotOf(0, 3), 20000);
        due("clear", x.judge(0, 0), 0);
    }

    @Edges.Says("NONE for others.")
    static void p37lotOf_otherQuestionsAreNone() {
        LinenBoard x = Edges.drawnLot(5, 4);
        for (int what : new int[] {-1, 4, 43, 99, 104, 105, 140, LOW, HIGH}) {
            due("lotOf(0, " + what + ")", x.lotOf(0, what), -1);
        }
    }

    @Edges.Says("NONE for others.")
    static void p37lotOf_wantsALotThatIsThere() {
        LinenBoard x = Edges.drawnLot(5, 4);
        for (int lot : new int[] {1, -1, 10, LOW, HIGH}) {
            for (int what : new int[] {0, 1, 2, 3, 100}) {
                due("lotOf(" + lot + ", " + what + ")", x.lotOf(lot, what), -1);
            }
        }
    }

    // ---- promise 38

    private static final String SHORT = "It is SHORT (2) if n * FULL less what was counted, less FULL for each other hank,"
        + " is above ALLOWED (0 .. 9999);";
    private static final String CLEAR = "CLEAR (0) if n * FULL less what was counted alone isn't;";
    private static final String JUDGE_NONE = "NONE for others, and a LOT of which none is DRAWN.";

    @Edges.Says({"SHORT, CLEAR, OPEN with so much ALLOWED.", SHORT})
    static void p38judge_shortAboveWhatIsAllowed() {
        LinenBoard x = Edges.drawnLot(5, 4);
        x.count(0, 0, 90);
        x.count(0, 1, 80);
        due("30 above 29", x.judge(0, 29), 2);
        due("30 above 30", x.judge(0, 30), 1);
        due("30 above 0", x.judge(0, 0), 2);
    }

    @Edges.Says({"SHORT, CLEAR, OPEN with so much ALLOWED.", CLEAR})
    static void p38judge_clearIfAllThatMayBeMissingIsAllowed() {
        LinenBoard x = Edges.drawnLot(5, 4);
        x.count(0, 0, 90);
        x.count(0, 1, 80);
        due("330 by 329", x.judge(0, 329), 1);
        due("330 by 330", x.judge(0, 330), 0);
        due("330 by 9999", x.judge(0, 9999), 0);
    }

    @Edges.Says("else OPEN (1).")
    static void p38judge_elseOpen() {
        LinenBoard x = Edges.drawnLot(5, 4);
        due("none counted, 0 allowed", x.judge(0, 0), 1);
        due("none counted, 499 allowed", x.judge(0, 499), 1);
        due("none counted, 500 allowed", x.judge(0, 500), 0);
    }

    @Edges.Says({SHORT, CLEAR})
    static void p38judge_allCountedIsNeverOpen() {
        LinenBoard x = Edges.drawnLot(2, 2);
        x.count(0, 0, 90);
        x.count(0, 1, 95);
        due("15 by 14", x.judge(0, 14), 2);
        due("15 by 15", x.judge(0, 15), 0);
        x.count(0, 0, 100);
        x.count(0, 1, 100);
        due("0 by 0", x.judge(0, 0), 0);
    }

    @Edges.Says({JUDGE_NONE, SHORT})
    static void p38judge_allowedMinus1And10000AreNone() {
        LinenBoard x = Edges.drawnLot(2, 1);
        due("allowed 0", x.judge(0, 0), 1);
        due("allowed 9999", x.judge(0, 9999), 0);
        for (int allowed : new int[] {-1, 10000, LOW, HIGH}) {
            due("allowed " + allowed, x.judge(0, allowed), -1);
        }
    }

    @Edges.Says(JUDGE_NONE)
    static void p38judge_withoutADrawIsNone() {
        LinenBoard x = new LinenBoard();
        x.lot(2);
        due("judge(0, 9999)", x.judge(0, 9999), -1);
        due("judge(0, 0)", x.judge(0, 0), -1);
    }

    @Edges.Says(JUDGE_NONE)
    static void p38judge_wantsALotThatIsThere() {
        LinenBoard x = Edges.drawnLot(2, 1);
        for (int lot : new int[] {1, -1, 10, LOW, HIGH}) {
            due("judge(" + lot + ", 5)", x.judge(lot, 5), -1);
        }
    }

    @Edges.Says({SHORT, CLEAR})
    static void p38judge_moreThanCanBeAllowed() {
        LinenBoard x = new LinenBoard();
        Edges.inForce(x, "hank 500;");
        x.lot(40);
        x.draw(0, 40, 0);
        due("20000 by 9999", x.judge(0, 9999), 1);
        for (int i = 0; i < 19; i++) {
            x.count(0, i, 0);
        }
        due("9500 are missing", x.judge(0, 9499), 2);
        x.count(0, 19, 0);
        due("10000 are missing", x.judge(0, 9999), 2);
    }

    // ---- promise 39

    private static final String MARKET = "OUT, HOME, ROUND: true.";
    private static final String TOLD = "(OUT, HOME 0 .. 99 a yard, told);";

    @Edges.Says({MARKET, TOLD})
    static void p39market_theLeast() {
        LinenBoard x = Edges.goodSeal();
        x.market(0, 1, 5);
        due("market(0, 0, 0)", x.market(0, 0, 0), true);
        due("home is 0", x.tried(-1, 0), 1);
        Edges.inForce(x, "bounty 1;");
        due("round is 0", x.tried(-1, 2), 1);
    }

    @Edges.Says({MARKET, TOLD, "if BOUNTY is above ROUND (0 .. 9999)."})
    static void p39market_theMost() {
        LinenBoard x = Edges.goodSeal();
        due("market(99, 99, 9999)", x.market(99, 99, 9999), true);
        due("as good out", x.tried(-1, 0), 1);
        due("market(98, 99, 9999)", x.market(98, 99, 9999), true);
        due("home is better", x.tried(-1, 0), 0);
        Edges.inForce(x, "bounty 9999;");
        due("not above 9999", x.tried(-1, 2), 0);
        Edges.inForce(x, "bounty 9999+1;");
        due("above 9999", x.tried(-1, 2), 1);
    }

    @Edges.Says({"False, changing nothing, for others.", TOLD})
    static void p39market_outMinus1And100AreRefused() {
        LinenBoard x = Edges.goodSeal();
        x.market(5, 5, 0);
        for (int out : new int[] {-1, 100, LOW, HIGH}) {
            due("market(" + out + ", 9, 9)", x.market(out, 9, 9), false);
        }
        due("nothing is changed", x.tried(-1, 0), 1);
    }

    @Edges.Says({"False, changing nothing, for others.", TOLD})
    static void p39market_homeMinus1And100AreRefused() {
        LinenBoard x = Edges.goodSeal();
        x.market(5, 6, 0);
        for (int home : new int[] {-1, 100, LOW, HIGH}) {
            due("market(9, " + home + ", 9)", x.market(9, home, 9), false);
        }
        due("nothing is changed", x.tried(-1, 0), 0);
    }

    @Edges.Says({"False, changing nothing, for others.", "if BOUNTY is above ROUND (0 .. 9999)."})
    static void p39market_roundMinus1And10000AreRefused() {
        LinenBoard x = Edges.goodSeal();
        Edges.inForce(x, "bounty 5;");
        x.market(0, 1, 4);
        for (int round : new int[] {-1, 10000, LOW, HIGH}) {
            due("market(9, 9, " + round + ")", x.market(9, 9, round), false);
        }
        due("round is 4", x.tried(-1, 2), 1);
        due("home is better still", x.tried(-1, 0), 0);
    }

    @Edges.Says(MARKET)
    static void p39market_untoldIs0() {
        LinenBoard x = Edges.goodSeal();
        due("0 is 0 or more", x.tried(-1, 0), 1);
        due("0 is not above 0", x.tried(-1, 2), 0);
        Edges.inForce(x, "bounty 1;");
        due("1 is above 0", x.tried(-1, 2), 1);
    }

    // ---- promise 40

    private static final String TRIED = "TRIED: an ACT (NONE: none) as if it were in FORCE on the clock's DAY, latest,"
        + " for all WEBS with a GOOD SEAL (as KNOWN now, by what is in force truly):";
    private static final String SHIPPED = "each (by its MEASURES on the clock's DAY as KNOWN then) is SHIPPED if BOUNTY less"
        + " FEE (that may be below 0) and OUT * LENGTH together are HOME * LENGTH or more";
    private static final String ROUND = "SMUGGLED round, SHIPPED or not, if BOUNTY is above ROUND (0 .. 9999).";
    private static final String ASKED = "TRIED: 0 SHIPPED, 1 BOUNTY less FEE of these together (each 0 at least), 2 SMUGGLED.";

    @Edges.Says({SHIPPED, ASKED})
    static void p40tried_asMuchAsAtHomeIsShipped() {
        LinenBoard x = Edges.goodSeal();
        Edges.inForce(x, "bounty 19;");
        x.market(3, 5, 0);
        due("19 + 30 against 50", x.tried(-1, 0), 0);
        Edges.inForce(x, "bounty 20;");
        due("20 + 30 against 50", x.tried(-1, 0), 1);
    }

    @Edges.Says({SHIPPED, ASKED})
    static void p40tried_lessThan0MayBeMadeUpFor() {
        LinenBoard x = Edges.goodSeal();
        Edges.inForce(x, "fee 20;");
        x.market(5, 3, 0);
        due("50 - 20 against 30", x.tried(-1, 0), 1);
        due("0 at least", x.tried(-1, 1), 0);
        Edges.inForce(x, "fee 21;");
        due("50 - 21 against 30", x.tried(-1, 0), 0);
    }

    @Edges.Says(ROUND)
    static void p40tried_smuggledAboveRound() {
        LinenBoard x = Edges.goodSeal();
        Edges.inForce(x, "bounty 20;fee 20;");
        x.market(0, 99, 20);
        due("20 above 20", x.tried(-1, 2), 0);
        x.market(0, 99, 19);
        due("20 above 19, shipped or not", x.tried(-1, 2), 1);
        due("it isn't shipped", x.tried(-1, 0), 0);
    }

    @Edges.Says(ASKED)
    static void p40tried_ofThoseThatAreShippedAlone() {
        LinenBoard x = Edges.goodSeal();
        x.web(0);
        x.measure(1, 0, 100, 50, 20, 0);
        x.seal(0, 1, 0);
        Edges.inForce(x, "bounty 50;fee 8;");
        x.market(0, 4, 0);
        // 42 against 40, 42 against 80
        due("shipped", x.tried(-1, 0), 1);
        due("together", x.tried(-1, 1), 42);
        due("smuggled", x.tried(-1, 2), 2);
    }

    @Edges.Says(ASKED)
    static void p40tried_each0AtLeast() {
        LinenBoard x = Edges.goodSeal();
        x.web(0);
        x.measure(1, 0, 100, 50, 20, 0);
        x.seal(0, 1, 0);
        // 5 for the one, 5 less for the other: together 5, not 0
        Edges.inForce(x, "bounty 25;fee 10+length;");
        x.market(9, 0, 0);
        due("shipped", x.tried(-1, 0), 2);
        due("together", x.tried(-1, 1), 5);
    }

    @Edges.Says(ASKED)
    static void p40tried_goesBeyond32Bits() {
        LinenBoard x = Edges.oneDie();
        for (int i = 1; i < 4; i++) {
            x.web(0);
            x.measure(i, 0, 1, 1, 1, 0);
        }
        for (int i = 0; i < 4; i++) {
            x.seal(0, i, 0);
        }
        Edges.inForce(x, "bounty 9999*9999*9999;");
        due("together", x.tried(-1, 1), 4000000000L);
    }

    @Edges.Says(TRIED)
    static void p40tried_websWithoutAGoodSealDontCount() {
        LinenBoard x = Edges.forgedSeal();
        x.web(0);
        Edges.inForce(x, "bounty 9;");
        due("a forged one", x.tried(-1, 2), 0);
        x.seal(0, 0, 0);
        due("a good one beside it", x.tried(-1, 2), 1);
        x.seal(0, 0, 0);
        due("two good ones count once", x.tried(-1, 2), 1);
    }

    @Edges.Says(TRIED)
    static void p40tried_sealsByWhatIsInForceTruly() {
        LinenBoard x = Edges.goodSeal();
        int act = Edges.act(x, "seal 1=2;bounty 9;");
        due("the act tried makes no seal bad", x.tried(act, 2), 1);
        Edges.inForce(x, "seal 1=2;");
        int other = Edges.act(x, "seal 1=1;bounty 9;");
        due("nor good", x.tried(other, 2), 0);
    }

    @Edges.Says(TRIED)
    static void p40tried_asIfItWereLatest() {
        LinenBoard x = Edges.goodSeal();
        int act = Edges.act(x, "bounty 9;");
        Edges.inForce(x, "bounty 5;fee 1;");
        due("as it is", x.tried(-1, 1), 4);
        due("the bounty is of the act tried, the fee as it is", x.tried(act, 1), 8);
    }

    @Edges.Says(TRIED)
    static void p40tried_anEmptyActIsAsNone() {
        LinenBoard x = Edges.goodSeal();
        Edges.inForce(x, "bounty 5;");
        int act = Edges.act(x, "");
        due("none", x.tried(-1, 1), 5);
        due("an empty one", x.tried(act, 1), 5);
    }

    @Edges.Says(TRIED)
    static void p40tried_allItsClausesCount() {
        LinenBoard x = Edges.oneDie();
        x.measure(0, 0, 100, 50, 10, 1);
        x.seal(0, 0, 0);
        Edges.inForce(x, "bounty width;fee sort;");
        due("100 less 10", x.tried(-1, 1), 90);
        int act = Edges.act(x, "shrink 20;sort 3 width=80;");
        due("80 less 3", x.tried(act, 1), 77);
    }

    @Edges.Says(SHIPPED)
    static void p40tried_byMeasuresOnTheClocksDay() {
        LinenBoard x = Edges.goodSeal();
        Edges.inForce(x, "bounty length+day;");
        x.days(2);
        x.measure(0, 2, 100, 50, 20, 0);
        x.measure(0, 3, 100, 50, 30, 0);
        due("20 and 2", x.tried(-1, 1), 22);
    }

    @Edges.Says(TRIED)
    static void p40tried_byWhatIsInForceOnTheClocksDay() {
        LinenBoard x = Edges.goodSeal();
        x.force(Edges.act(x, "bounty 9;fee 2;"), 7, 7);
        x.days(6);
        due("on day 6", x.tried(-1, 1), 0);
        x.days(1);
        due("on day 7", x.tried(-1, 1), 7);
        due("smuggled on day 7", x.tried(-1, 2), 1);
        x.days(1);
        due("on day 8", x.tried(-1, 1), 0);
    }

    @Edges.Says({"Nothing is changed.", TRIED})
    static void p40tried_changesNothing() {
        LinenBoard x = Edges.goodSeal();
        int act = Edges.act(x, "bounty 9;fee 1;shrink 20;level 9;seal 1=2;");
        x.tried(act, 0);
        due("forces", x.about(7), 0);
        due("claims", x.about(10), 0);
        due("bounty", x.sum(0, 0, 0, 1), 0);
        due("level", x.says(0, 3), 5);
        due("the seal is good", x.sealOf(0, 4), 1);
        due("nothing is paid", x.book(0), 0);
        x.claim(0);
        due("by what is in force truly", x.claimOf(0, 2), 0);
    }

    @Edges.Says("NONE for others.")
    static void p40tried_wantsAnActThatIsThereOrNone() {
        LinenBoard x = Edges.goodSeal();
        due("none", x.tried(-1, 0), 1);
        due("tried(0, 0) without acts", x.tried(0, 0), -1);
        x.act();
        due("tried(0, 0)", x.tried(0, 0), 1);
        for (int act : new int[] {1, -2, 10, LOW, HIGH}) {
            due("tried(" + act + ", 0)", x.tried(act, 0), -1);
        }
    }

    @Edges.Says("NONE for others.")
    static void p40tried_otherQuestionsAreNone() {
        LinenBoard x = Edges.goodSeal();
        for (int what : new int[] {-1, 3, LOW, HIGH}) {
            due("tried(-1, " + what + ")", x.tried(-1, what), -1);
        }
    }

    public static void main(String[] args) {
        Edges.run(DrawEdgesTest.class);
    }
}
