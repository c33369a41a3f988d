import java.util.Random;

/** Edges of promises 27 to 31: seed, trades, need, doubt, proof. */
public final class YarnEdgesTest {
    private static final int LOW = Edges.LOW;
    private static final int HIGH = Edges.HIGH;

    private static void due(String what, long got, long want) {
        Edges.due(what, got, want);
    }

    private static void due(String what, boolean got, boolean want) {
        Edges.due(what, got, want);
    }

    /** A web of that weaver, of that length and so wide and close that it needs so many pounds (by the board's inch). */
    private static void web(LinenBoard x, int weaver, int length, int pounds) {
        int web = x.web(weaver);
        for (int count = 1; count <= 99; count++) {
            for (int width = 1; width <= 200; width++) {
                if (width * length * count / 1000 + 1 == pounds) {
                    x.measure(web, 0, width, count, length, 0);
                    due("the need of web " + web, x.need(web), pounds);
                    return;
                }
            }
        }
        throw new AssertionError("no web of length " + length + " needs " + pounds);
    }

    private static void leftOut(LinenBoard x, int a, int b, int... want) {
        for (int web = a; web <= b; web++) {
            due("web " + web + " is left out", x.doubt(a, b, web), want[web - a]);
        }
    }

    // ---- promise 27

    @Edges.Says({"SEED of a PERSON: true.", "SEED: pecks (0 .. 99) that a PERSON has,"})
    static void p27seed_0IsTheLeast() {
        LinenBoard x = Edges.oneWeb();
        x.seed(0, 99);
        due("seed(0, 0)", x.seed(0, 0), true);
        due("no pounds", x.doubt(0, 0, -1), 10);
    }

    @Edges.Says({"SEED of a PERSON: true.", "SEED: pecks (0 .. 99) that a PERSON has,"})
    static void p27seed_99IsTheMost() {
        LinenBoard x = Edges.onePerson();
        web(x, 0, 60, 990);
        due("seed(0, 99)", x.seed(0, 99), true);
        due("990 pounds for 990", x.doubt(0, 0, -1), 0);
        LinenBoard y = Edges.onePerson();
        web(y, 0, 60, 991);
        y.seed(0, 99);
        due("990 pounds for 991", y.doubt(0, 0, -1), 60);
    }

    @Edges.Says("False for others.")
    static void p27seed_minus1And100AreRefused() {
        LinenBoard x = Edges.oneWeb();
        x.seed(0, 6);
        for (int pecks : new int[] {-1, 100, LOW, HIGH}) {
            due("seed(0, " + pecks + ")", x.seed(0, pecks), false);
        }
        due("6 pecks still", x.doubt(0, 0, -1), 0);
        x.seed(0, 5);
        for (int pecks : new int[] {-1, 100, LOW, HIGH}) {
            x.seed(0, pecks);
        }
        due("5 pecks still", x.doubt(0, 0, -1), 10);
    }

    @Edges.Says("False for others.")
    static void p27seed_wantsAPersonThatIsThere() {
        LinenBoard x = Edges.oneWeb();
        for (int person : new int[] {1, -1, 30, LOW, HIGH}) {
            due("seed(" + person + ", 9)", x.seed(person, 9), false);
        }
        due("nobody has it", x.doubt(0, 0, -1), 10);
    }

    @Edges.Says("told anew in place of those.")
    static void p27seed_toldAnewTakesThePlace() {
        LinenBoard x = Edges.oneWeb();
        x.seed(0, 3);
        x.seed(0, 5);
        due("5 pecks, not 8", x.doubt(0, 0, -1), 10);
        x.seed(0, 6);
        due("6 pecks", x.doubt(0, 0, -1), 0);
    }

    @Edges.Says("SEED: pecks (0 .. 99) that a PERSON has,")
    static void p27seed_noneAtFirst() {
        due("no pecks", Edges.oneWeb().doubt(0, 0, -1), 10);
    }

    @Edges.Says("SEED: pecks (0 .. 99) that a PERSON has,")
    static void p27seed_isThePersonsOwn() {
        LinenBoard x = Edges.oneWeb();
        x.person(0, 1);
        x.seed(1, 99);
        due("another one's", x.doubt(0, 0, -1), 10);
    }

    // ---- promise 28

    @Edges.Says({"A TRADE: its number.", "TRADES (40 at most):"})
    static void p28trade_numbersFrom0To39() {
        LinenBoard x = Edges.persons(2);
        for (int i = 0; i <= 39; i++) {
            due("trade " + i, x.trade(i % 2, 1 - i % 2, i), i);
        }
    }

    @Edges.Says({"or if there are 40.", "TRADES (40 at most):"})
    static void p28trade_the41stIsNone() {
        LinenBoard x = Edges.persons(2);
        web(x, 1, 10, 20);
        x.seed(0, 2);
        for (int i = 0; i < 40; i++) {
            x.trade(1, 0, 1);
        }
        due("the 41st", x.trade(0, 1, 20), -1);
        due("about(11)", x.about(11), 40);
        due("it counts for nothing", x.doubt(0, 0, -1), 10);
    }

    @Edges.Says("or if there are 40.")
    static void p28trade_the40thCounts() {
        LinenBoard x = Edges.persons(2);
        web(x, 1, 10, 20);
        x.seed(0, 2);
        for (int i = 0; i < 39; i++) {
            x.trade(1, 0, 1);
        }
        due("the 40th", x.trade(0, 1, 20), 39);
        due("it brings 20 pounds", x.doubt(0, 0, -1), 0);
    }

    @Edges.Says("from a PERSON to another one, at most so many pounds (0 .. 9999).")
    static void p28trade_0PoundsIsTheLeast() {
        LinenBoard x = Edges.persons(2);
        web(x, 1, 10, 1);
        x.seed(0, 99);
        due("trade(0, 1, 0)", x.trade(0, 1, 0), 0);
        due("it brings nothing", x.doubt(0, 0, -1), 10);
    }

    @Edges.Says("from a PERSON to another one, at most so many pounds (0 .. 9999).")
    static void p28trade_9999PoundsIsTheMost() {
        LinenBoard x = Edges.persons(2);
        web(x, 1, 10, 150);
        x.seed(0, 15);
        due("trade(0, 1, 9999)", x.trade(0, 1, 9999), 0);
        due("it brings all", x.doubt(0, 0, -1), 0);
        x.seed(0, 14);
        due("but no more than there is", x.doubt(0, 0, -1), 10);
    }

    @Edges.Says("NONE for others,")
    static void p28trade_minus1And10000PoundsAreNone() {
        LinenBoard x = Edges.persons(2);
        for (int pounds : new int[] {-1, 10000, LOW, HIGH}) {
            due("trade(0, 1, " + pounds + ")", x.trade(0, 1, pounds), -1);
        }
        due("about(11)", x.about(11), 0);
    }

    @Edges.Says({"NONE for others,", "from a PERSON to another one,"})
    static void p28trade_toOneselfIsNone() {
        LinenBoard x = Edges.persons(2);
        due("trade(0, 0, 1)", x.trade(0, 0, 1), -1);
        due("trade(1, 1, 1)", x.trade(1, 1, 1), -1);
        due("about(11)", x.about(11), 0);
    }

    @Edges.Says("NONE for others,")
    static void p28trade_wantsPersonsThatAreThere() {
        LinenBoard x = Edges.persons(2);
        for (int person : new int[] {2, -1, 30, LOW, HIGH}) {
            due("trade(" + person + ", 0, 1)", x.trade(person, 0, 1), -1);
            due("trade(0, " + person + ", 1)", x.trade(0, person, 1), -1);
        }
        due("about(11)", x.about(11), 0);
    }

    @Edges.Says("from a PERSON to another one, at most so many pounds (0 .. 9999).")
    static void p28trade_goesOneWayAlone() {
        LinenBoard x = Edges.persons(2);
        web(x, 0, 10, 20);
        x.seed(1, 2);
        x.trade(0, 1, 20);
        due("from 0 to 1 alone", x.doubt(0, 0, -1), 10);
        x.trade(1, 0, 20);
        due("from 1 to 0", x.doubt(0, 0, -1), 0);
    }

    // ---- promise 29

    private static final String NEED = "NEED of a WEB: WIDTH * LENGTH * COUNT / 1000, cut, and 1, by THE BOARD"
        + " (on the clock's DAY as KNOWN now; 0 without MEASURES).";

    @Edges.Says({NEED, "NEED of a WEB."})
    static void p29need_isCutAnd1() {
        LinenBoard x = Edges.onePerson();
        x.web(0);
        x.measure(0, 0, 37, 1, 27, 0);
        due("999 / 1000 and 1", x.need(0), 1);
        x.measure(0, 0, 100, 1, 10, 0);
        due("1000 / 1000 and 1", x.need(0), 2);
        x.measure(0, 0, 1, 1, 1, 0);
        due("1 / 1000 and 1", x.need(0), 1);
        x.measure(0, 0, 200, 99, 60, 0);
        due("1188000 / 1000 and 1", x.need(0), 1189);
    }

    @Edges.Says(NEED)
    static void p29need_ofWidth0Is1() {
        LinenBoard x = new LinenBoard();
        x.town(80);
        x.person(0, 0);
        x.web(0);
        x.measure(0, 0, 1, 99, 60, 0);
        due("need", x.need(0), 1);
    }

    @Edges.Says(NEED)
    static void p29need_isByTheBoard() {
        LinenBoard x = new LinenBoard();
        x.town(120);
        x.person(0, 0);
        x.web(0);
        x.measure(0, 0, 199, 99, 59, 1);
        due("238 * 59 * 82 / 1000 and 1", x.need(0), 1152);
        Edges.inForce(x, "shrink 10;");
        due("215 * 59 * 82 / 1000 and 1", x.need(0), 1041);
    }

    @Edges.Says(NEED)
    static void p29need_withoutMeasuresIs0() {
        LinenBoard x = Edges.onePerson();
        x.web(0);
        due("need(0)", x.need(0), 0);
    }

    @Edges.Says(NEED)
    static void p29need_onTheClocksDay() {
        LinenBoard x = Edges.onePerson();
        x.web(0);
        x.measure(0, 2, 100, 10, 10, 0);
        x.measure(0, 3, 100, 20, 10, 0);
        int[] want = {0, 0, 11, 21, 21};
        for (int day = 0; day < want.length; day++) {
            due("on day " + day, x.need(0), want[day]);
            x.days(1);
        }
    }

    @Edges.Says("NONE for others.")
    static void p29need_wantsAWebThatIsThere() {
        LinenBoard x = Edges.oneWeb();
        for (int web : new int[] {1, -1, 50, LOW, HIGH}) {
            due("need(" + web + ")", x.need(web), -1);
        }
    }

    // ---- promise 30: what is asked

    private static final String DOUBT = "DOUBT of WEBS from a to b: its LENGTH together (web NONE),"
        + " whether a WEB of these is left out (1, 0).";

    private static LinenBoard twelveWebs() {
        LinenBoard x = Edges.onePerson();
        for (int i = 0; i < 12; i++) {
            x.web(0);
            x.measure(i, 0, 1, 1, 1 + i, 0);
        }
        return x;
    }

    @Edges.Says({DOUBT, "DOUBT of WEBS from a to b (10 at most):"})
    static void p30doubt_10WebsAreTheMost() {
        LinenBoard x = twelveWebs();
        due("doubt(0, 9, -1)", x.doubt(0, 9, -1), 55);
        due("doubt(2, 11, -1)", x.doubt(2, 11, -1), 75);
        due("doubt(0, 10, -1)", x.doubt(0, 10, -1), -1);
        due("doubt(1, 11, 5)", x.doubt(1, 11, 5), -1);
    }

    @Edges.Says(DOUBT)
    static void p30doubt_1WebIsTheFewest() {
        LinenBoard x = twelveWebs();
        due("doubt(11, 11, -1)", x.doubt(11, 11, -1), 12);
        due("doubt(11, 11, 11)", x.doubt(11, 11, 11), 1);
        due("doubt(0, 0, 0)", x.doubt(0, 0, 0), 1);
    }

    @Edges.Says("NONE for others.")
    static void p30doubt_fromALaterWebToAnEarlierIsNone() {
        LinenBoard x = twelveWebs();
        due("doubt(1, 0, -1)", x.doubt(1, 0, -1), -1);
        due("doubt(11, 0, -1)", x.doubt(11, 0, -1), -1);
    }

    @Edges.Says("NONE for others.")
    static void p30doubt_wantsWebsThatAreThere() {
        LinenBoard x = twelveWebs();
        for (int web : new int[] {12, -1, 50, LOW, HIGH}) {
            due("doubt(5, " + web + ", -1)", x.doubt(5, web, -1), -1);
            due("doubt(" + web + ", 5, -1)", x.doubt(web, 5, -1), -1);
            due("doubt(" + web + ", " + web + ", -1)", x.doubt(web, web, -1), -1);
        }
        due("doubt(LOW, HIGH, -1)", x.doubt(LOW, HIGH, -1), -1);
    }

    @Edges.Says("NONE for others.")
    static void p30doubt_wantsAWebOfThese() {
        LinenBoard x = twelveWebs();
        due("doubt(3, 5, 3)", x.doubt(3, 5, 3), 1);
        due("doubt(3, 5, 5)", x.doubt(3, 5, 5), 1);
        for (int web : new int[] {2, 6, 0, -2, 12, LOW, HIGH}) {
            due("doubt(3, 5, " + web + ")", x.doubt(3, 5, web), -1);
        }
    }

    // ---- promise 30: what is in doubt

    private static final String LEAST = "the least LENGTH together (on the clock's DAY as KNOWN now);";
    private static final String FIRST = "of like ones the first by WEBS (kept ahead of left out).";
    private static final String CAN = "A set of WEBS CAN all have been woven, if pounds can go by TRADES (also on and on)"
        + " from PERSONS, each with pecks * YIELD (of the clock's DAY), so that each WEAVER has the NEED of its WEBS in the set.";

    @Edges.Says(CAN)
    static void p30doubt_asManyPoundsAsNeeded() {
        LinenBoard x = Edges.onePerson();
        web(x, 0, 10, 50);
        x.seed(0, 5);
        due("50 pounds for 50", x.doubt(0, 0, -1), 0);
        x.measure(0, 0, 50, 10, 10, 0);
        due("50 pounds for 6", x.doubt(0, 0, -1), 0);
        x.measure(0, 0, 100, 50, 10, 0);
        due("50 pounds for 51", x.doubt(0, 0, -1), 10);
    }

    @Edges.Says(CAN)
    static void p30doubt_yieldOfTheClocksDay() {
        LinenBoard x = Edges.oneWeb();
        x.seed(0, 3);
        x.force(Edges.act(x, "yield 17;"), 1, 1);
        due("3 * 10 for 51", x.doubt(0, 0, -1), 10);
        x.days(1);
        due("3 * 17 for 51", x.doubt(0, 0, -1), 0);
        x.days(1);
        due("3 * 10 again", x.doubt(0, 0, -1), 10);
    }

    @Edges.Says(CAN)
    static void p30doubt_asManyPoundsAsATradeBrings() {
        LinenBoard x = Edges.persons(2);
        web(x, 1, 10, 50);
        x.seed(0, 99);
        x.trade(0, 1, 49);
        due("49 for 50", x.doubt(0, 0, -1), 10);
        x.trade(0, 1, 1);
        due("49 and 1 for 50", x.doubt(0, 0, -1), 0);
    }

    @Edges.Says(CAN)
    static void p30doubt_tradesOnAndOn() {
        LinenBoard x = Edges.persons(30);
        web(x, 29, 10, 50);
        x.seed(0, 5);
        for (int i = 27; i >= 0; i--) {
            x.trade(i, i + 1, 50);
        }
        due("half of the way", x.doubt(0, 0, -1), 10);
        x.trade(28, 29, 49);
        due("49 by the last one", x.doubt(0, 0, -1), 10);
        x.trade(28, 29, 1);
        due("50 through thirty persons", x.doubt(0, 0, -1), 0);
    }

    @Edges.Says(CAN)
    static void p30doubt_seedOfTheLastPerson() {
        LinenBoard x = Edges.persons(30);
        web(x, 29, 10, 50);
        web(x, 0, 10, 30);
        x.seed(29, 8);
        due("80 for 50", x.doubt(0, 0, -1), 0);
        due("nothing for 30", x.doubt(0, 1, -1), 10);
        x.trade(3, 4, 9);
        x.trade(29, 0, 30);
        due("80 for 80", x.doubt(0, 1, -1), 0);
        x.seed(29, 7);
        due("70 for 80", x.doubt(0, 1, -1), 10);
        leftOut(x, 0, 1, 0, 1);
    }

    @Edges.Says(CAN)
    static void p30doubt_tradesInACircle() {
        LinenBoard x = Edges.persons(4);
        web(x, 3, 10, 50);
        x.seed(0, 5);
        x.trade(0, 1, 50);
        x.trade(1, 2, 50);
        x.trade(2, 0, 50);
        due("round and round", x.doubt(0, 0, -1), 10);
        x.trade(2, 3, 50);
        due("out of it", x.doubt(0, 0, -1), 0);
    }

    @Edges.Says(CAN)
    static void p30doubt_aTradeServesAllWebsTogether() {
        LinenBoard x = Edges.persons(2);
        web(x, 1, 10, 30);
        web(x, 1, 20, 30);
        x.seed(0, 99);
        x.trade(0, 1, 59);
        due("59 for 60", x.doubt(0, 1, -1), 10);
        leftOut(x, 0, 1, 1, 0);
        due("59 for the first", x.doubt(0, 0, -1), 0);
    }

    @Edges.Says(CAN)
    static void p30doubt_aTradeServesTenWebsTogether() {
        LinenBoard x = Edges.persons(2);
        for (int i = 0; i < 10; i++) {
            web(x, 1, 10, 20);
        }
        x.seed(0, 99);
        x.trade(0, 1, 199);
        due("199 for 200", x.doubt(0, 9, -1), 10);
        leftOut(x, 0, 9, 0, 0, 0, 0, 0, 0, 0, 0, 0, 1);
        x.trade(0, 1, 1);
        due("200 for 200", x.doubt(0, 9, -1), 0);
    }

    @Edges.Says(CAN)
    static void p30doubt_whatGoesToOneIsLackingToAnother() {
        LinenBoard x = Edges.persons(3);
        web(x, 0, 30, 50);
        web(x, 1, 20, 50);
        web(x, 2, 10, 50);
        x.seed(0, 10);
        x.trade(0, 1, 9999);
        x.trade(0, 2, 9999);
        due("100 for 150", x.doubt(0, 2, -1), 10);
        leftOut(x, 0, 2, 0, 0, 1);
    }

    @Edges.Says(CAN)
    static void p30doubt_poundsFindTheirWay() {
        // Person 0 can give to 1 or to 2, person 3 to 1 alone: 1 must do without 0.
        LinenBoard x = Edges.persons(4);
        web(x, 1, 10, 50);
        web(x, 2, 10, 50);
        x.seed(0, 5);
        x.seed(3, 5);
        x.trade(0, 1, 50);
        x.trade(0, 2, 50);
        x.trade(3, 1, 50);
        due("all", x.doubt(0, 1, -1), 0);
    }

    @Edges.Says(CAN)
    static void p30doubt_whatWentOneWayMayGoAnotherInstead() {
        // Web 0 is had from person 0 first; web 1 makes it be had from 3, and web 2 then has the way from 0 again.
        for (int more = 0; more <= 1; more++) {
            LinenBoard x = Edges.persons(6);
            web(x, 1, 10, 50);
            web(x, 2, 10, 50);
            web(x, 1, 9, 50 + more);
            x.seed(0, 5);
            x.seed(3, 5);
            x.seed(4, 6);
            x.trade(0, 1, 50);
            x.trade(0, 2, 50);
            x.trade(3, 1, 50);
            x.trade(4, 5, 9999);
            x.trade(5, 0, 9999);
            due("need " + (50 + more), x.doubt(0, 2, -1), 9 * more);
            leftOut(x, 0, 2, 0, 0, more);
        }
    }

    @Edges.Says("those of them that are left out so that the others CAN:")
    static void p30doubt_whatIsLeftOutTakesNothing() {
        LinenBoard x = Edges.onePerson();
        web(x, 0, 10, 10);
        web(x, 0, 9, 60);
        web(x, 0, 8, 40);
        x.seed(0, 5);
        due("50 for 10 and 40", x.doubt(0, 2, -1), 9);
        leftOut(x, 0, 2, 0, 1, 0);
    }

    @Edges.Says({LEAST, "those of them that are left out so that the others CAN:"})
    static void p30doubt_noneIfAllCan() {
        LinenBoard x = twelveWebs();
        x.seed(0, 1);
        due("10 pounds for 10", x.doubt(0, 9, -1), 0);
        leftOut(x, 0, 9, new int[10]);
    }

    @Edges.Says({LEAST, "those of them that are left out so that the others CAN:"})
    static void p30doubt_allIfNoneCan() {
        LinenBoard x = twelveWebs();
        due("no pounds", x.doubt(0, 9, -1), 55);
        leftOut(x, 0, 9, 1, 1, 1, 1, 1, 1, 1, 1, 1, 1);
    }

    @Edges.Says(LEAST)
    static void p30doubt_theLeastLengthNotTheFewestWebs() {
        LinenBoard x = Edges.onePerson();
        web(x, 0, 10, 60);
        web(x, 0, 4, 30);
        web(x, 0, 5, 30);
        x.seed(0, 6);
        due("9 by two, not 10 by one", x.doubt(0, 2, -1), 9);
        leftOut(x, 0, 2, 0, 1, 1);
    }

    @Edges.Says(LEAST)
    static void p30doubt_notTheFirstThatFit() {
        LinenBoard x = Edges.onePerson();
        web(x, 0, 9, 60);
        web(x, 0, 4, 30);
        web(x, 0, 6, 30);
        x.seed(0, 6);
        due("the first one, not the others", x.doubt(0, 2, -1), 9);
        leftOut(x, 0, 2, 1, 0, 0);
    }

    @Edges.Says(LEAST)
    static void p30doubt_lengthOnTheClocksDay() {
        LinenBoard x = Edges.oneWeb();
        x.measure(0, 1, 100, 50, 11, 0);
        due("on day 0", x.doubt(0, 0, -1), 10);
        x.days(1);
        due("on day 1", x.doubt(0, 0, -1), 11);
        x.measure(0, 0, 100, 50, 12, 0);
        due("put right for day 0 alone", x.doubt(0, 0, -1), 11);
        x.measure(0, 1, 100, 50, 13, 0);
        due("put right for day 1", x.doubt(0, 0, -1), 13);
    }

    @Edges.Says(LEAST)
    static void p30doubt_theMostLength() {
        LinenBoard x = Edges.onePerson();
        for (int i = 0; i < 10; i++) {
            x.web(0);
            x.measure(i, 0, 200, 99, 60, 0);
        }
        due("ten times 60", x.doubt(0, 9, -1), 600);
        x.seed(0, 99);
        due("990 pounds for one of 1189", x.doubt(0, 9, -1), 600);
    }

    @Edges.Says({LEAST, "0 without MEASURES)."})
    static void p30doubt_websWithoutMeasuresAreKept() {
        LinenBoard x = Edges.onePerson();
        x.web(0);
        x.web(0);
        x.measure(1, 0, 100, 50, 10, 0);
        x.web(0);
        x.measure(2, 1, 100, 50, 10, 0);
        due("the one with measures", x.doubt(0, 2, -1), 10);
        leftOut(x, 0, 2, 0, 1, 0);
    }

    @Edges.Says(FIRST)
    static void p30doubt_ofLikeOnesTheFirstAreKept() {
        LinenBoard x = Edges.onePerson();
        for (int i = 0; i < 4; i++) {
            web(x, 0, 10, 20);
        }
        x.seed(0, 4);
        due("two of four", x.doubt(0, 3, -1), 20);
        leftOut(x, 0, 3, 0, 0, 1, 1);
        leftOut(x, 1, 3, 0, 0, 1);
    }

    @Edges.Says(FIRST)
    static void p30doubt_ofLikeLengthsTheFirstWebIsKept() {
        LinenBoard x = Edges.onePerson();
        web(x, 0, 5, 50);
        web(x, 0, 3, 30);
        web(x, 0, 2, 20);
        x.seed(0, 5);
        due("5 by one, 5 by two", x.doubt(0, 2, -1), 5);
        leftOut(x, 0, 2, 0, 1, 1);
    }

    @Edges.Says(FIRST)
    static void p30doubt_ofLikeLengthsTheLastWebIsKeptIfTheFirstCant() {
        LinenBoard x = Edges.persons(2);
        web(x, 0, 5, 50);
        web(x, 1, 5, 50);
        x.seed(1, 5);
        leftOut(x, 0, 1, 1, 0);
    }

    @Edges.Says(FIRST)
    static void p30doubt_keptAheadOfLeftOutWebByWeb() {
        // 100 pounds: out may be 0, or 2 and 4, or 3 and 4, each 5 long; the last keeps the first three.
        LinenBoard x = Edges.onePerson();
        int[] lengths = {5, 4, 3, 3, 2};
        int[] pounds = {50, 40, 30, 30, 20};
        for (int i = 0; i < 5; i++) {
            web(x, 0, lengths[i], pounds[i]);
        }
        x.seed(0, 12);
        due("5 of 17", x.doubt(0, 4, -1), 5);
        leftOut(x, 0, 4, 0, 0, 0, 1, 1);
    }

    @Edges.Says(DOUBT)
    static void p30doubt_changesNothing() {
        LinenBoard x = twelveWebs();
        x.seed(0, 1);
        due("doubt(0, 9, -1)", x.doubt(0, 9, -1), 0);
        due("doubt(2, 11, -1)", x.doubt(2, 11, -1), 0);
        due("doubt(0, 9, -1) again", x.doubt(0, 9, -1), 0);
        due("about(4)", x.about(4), 12);
    }

    // ---- promise 31

    private static final String PROOF = "Whether a set of PERSONS (bits) is a PROOF for WEBS from a to b (1, 0).";
    private static final String ROWS = "ROWS: a set of PERSONS is a PROOF that WEBS from a to b can't all have been woven,"
        + " if their pounds of seed, and those of TRADES from others to them, together are less than the NEED of their"
        + " WEBS among these.";

    @Edges.Says({PROOF, ROWS})
    static void p31proof_asManyPoundsAreNotLess() {
        LinenBoard x = Edges.onePerson();
        web(x, 0, 10, 50);
        x.seed(0, 5);
        due("50 for 50", x.proof(0, 0, 1), 0);
        x.measure(0, 0, 100, 50, 10, 0);
        due("50 for 51", x.proof(0, 0, 1), 1);
    }

    @Edges.Says({PROOF, ROWS})
    static void p31proof_noPersonsProveNothing() {
        LinenBoard x = Edges.oneWeb();
        due("nobody", x.proof(0, 0, 0), 0);
    }

    @Edges.Says(ROWS)
    static void p31proof_tradesFromOthersToThemAlone() {
        LinenBoard x = Edges.persons(3);
        web(x, 0, 10, 50);
        web(x, 1, 10, 50);
        x.seed(0, 5);
        x.trade(2, 0, 49);
        due("99 for 100", x.proof(0, 1, 3), 1);
        x.trade(0, 1, 9999);
        due("a trade among them", x.proof(0, 1, 3), 1);
        x.trade(1, 2, 9999);
        due("a trade from them to another", x.proof(0, 1, 3), 1);
        x.trade(2, 1, 1);
        due("one pound more from another", x.proof(0, 1, 3), 0);
    }

    @Edges.Says(ROWS)
    static void p31proof_aTradeFromAnotherCountsWhetherItHasItOrNot() {
        LinenBoard x = Edges.persons(2);
        web(x, 0, 10, 50);
        x.trade(1, 0, 50);
        due("the weaver alone", x.proof(0, 0, 1), 0);
        due("both", x.proof(0, 0, 3), 1);
        due("the other one alone", x.proof(0, 0, 2), 0);
    }

    @Edges.Says(ROWS)
    static void p31proof_seedOfTheirsAlone() {
        LinenBoard x = Edges.persons(3);
        web(x, 1, 10, 50);
        x.seed(0, 99);
        x.seed(2, 99);
        due("the weaver alone", x.proof(0, 0, 2), 1);
        due("with the one ahead", x.proof(0, 0, 3), 0);
        due("with the one behind", x.proof(0, 0, 6), 0);
    }

    @Edges.Says(ROWS)
    static void p31proof_websOfTheirsAlone() {
        LinenBoard x = Edges.persons(3);
        web(x, 0, 10, 50);
        web(x, 1, 10, 20);
        web(x, 2, 10, 50);
        x.seed(1, 2);
        due("20 for 20", x.proof(0, 2, 2), 0);
        due("20 for 70", x.proof(0, 2, 3), 1);
        x.seed(1, 1);
        due("10 for 20", x.proof(0, 2, 2), 1);
        due("10 for nothing", x.proof(2, 2, 2), 0);
    }

    @Edges.Says(ROWS)
    static void p31proof_eachTradeIsItsOwn() {
        LinenBoard x = Edges.persons(4);
        web(x, 1, 10, 50);
        web(x, 2, 10, 30);
        x.trade(1, 3, 900);
        x.trade(0, 2, 29);
        x.trade(3, 1, 49);
        due("49 for 50", x.proof(0, 1, 2), 1);
        due("29 for 30", x.proof(0, 1, 4), 1);
        due("78 for 80", x.proof(0, 1, 6), 1);
        x.trade(0, 2, 1);
        due("30 for 30", x.proof(0, 1, 4), 0);
        due("79 for 80", x.proof(0, 1, 6), 1);
        x.trade(3, 1, 1);
        due("80 for 80", x.proof(0, 1, 6), 0);
    }

    @Edges.Says(ROWS)
    static void p31proof_websAmongTheseAlone() {
        LinenBoard x = Edges.onePerson();
        web(x, 0, 10, 30);
        web(x, 0, 10, 30);
        web(x, 0, 10, 30);
        x.seed(0, 6);
        due("60 for webs 0 to 1", x.proof(0, 1, 1), 0);
        due("60 for webs 1 to 2", x.proof(1, 2, 1), 0);
        due("60 for webs 0 to 2", x.proof(0, 2, 1), 1);
    }

    @Edges.Says(ROWS)
    static void p31proof_yieldOfTheClocksDay() {
        LinenBoard x = Edges.oneWeb();
        x.seed(0, 3);
        x.force(Edges.act(x, "yield 17;"), 1, 1);
        due("3 * 10 for 51", x.proof(0, 0, 1), 1);
        x.days(1);
        due("3 * 17 for 51", x.proof(0, 0, 1), 0);
    }

    @Edges.Says("NONE for others.")
    static void p31proof_wantsPersonsThatAreThere() {
        LinenBoard x = Edges.persons(3);
        web(x, 0, 10, 30);
        due("all three", x.proof(0, 0, 7), 1);
        for (int set : new int[] {8, 9, 1 << 30, -1, LOW, HIGH}) {
            due("proof(0, 0, " + set + ")", x.proof(0, 0, set), -1);
        }
    }

    @Edges.Says("NONE for others.")
    static void p31proof_allThirtyPersons() {
        LinenBoard x = Edges.persons(30);
        web(x, 29, 10, 30);
        due("all thirty", x.proof(0, 0, (1 << 30) - 1), 1);
        due("the last alone", x.proof(0, 0, 1 << 29), 1);
        due("all but the last", x.proof(0, 0, (1 << 29) - 1), 0);
        due("a 31st", x.proof(0, 0, 1 << 30), -1);
        due("a 32nd", x.proof(0, 0, LOW), -1);
        due("all and more", x.proof(0, 0, HIGH), -1);
        due("all bits", x.proof(0, 0, -1), -1);
    }

    @Edges.Says({"NONE for others.", "DOUBT of WEBS from a to b (10 at most):"})
    static void p31proof_10WebsAreTheMost() {
        LinenBoard x = twelveWebs();
        due("proof(0, 9, 1)", x.proof(0, 9, 1), 1);
        due("proof(2, 11, 1)", x.proof(2, 11, 1), 1);
        due("proof(0, 10, 1)", x.proof(0, 10, 1), -1);
    }

    @Edges.Says("NONE for others.")
    static void p31proof_wantsWebsThatAreThere() {
        LinenBoard x = twelveWebs();
        for (int web : new int[] {12, -1, 50, LOW, HIGH}) {
            due("proof(5, " + web + ", 1)", x.proof(5, web, 1), -1);
            due("proof(" + web + ", 5, 1)", x.proof(web, 5, 1), -1);
        }
        due("proof(1, 0, 1)", x.proof(1, 0, 1), -1);
        due("proof(LOW, HIGH, 1)", x.proof(LOW, HIGH, 1), -1);
        due("proof(11, 11, 1)", x.proof(11, 11, 1), 1);
    }

    @Edges.Says(ROWS)
    static void p31proof_manyPoundsTogether() {
        LinenBoard x = Edges.persons(2);
        web(x, 1, 10, 2);
        for (int i = 0; i < 40; i++) {
            x.trade(0, 1, 9999);
        }
        due("399960 for 2", x.proof(0, 0, 2), 0);
        due("none for 2", x.proof(0, 0, 3), 1);
    }

    /** Some persons with seed, trades among them and webs, by a seed of Java's own. */
    private static LinenBoard anyYarn(Random random, int persons, int webs) {
        LinenBoard x = Edges.persons(persons);
        for (int person = 0; person < persons; person++) {
            x.seed(person, random.nextInt(6));
        }
        for (int trades = random.nextInt(12); trades > 0; trades--) {
            x.trade(random.nextInt(persons), random.nextInt(persons), random.nextInt(40));
        }
        for (int web = 0; web < webs; web++) {
            x.web(random.nextInt(persons));
            x.measure(web, 0, 20 + random.nextInt(100), 50, 1 + random.nextInt(10), 0);
        }
        return x;
    }

    @Edges.Says({ROWS, "A set of WEBS CAN all have been woven, if pounds can go by TRADES (also on and on)"})
    static void p31proof_thereIsOneJustWhereSomeWebIsInDoubt() {
        Random random = new Random(31);
        int persons = 6;
        int doubted = 0;
        for (int run = 0; run < 400; run++) {
            LinenBoard x = anyYarn(random, persons, 4);
            int proofs = 0;
            for (int set = 0; set < 1 << persons; set++) {
                proofs += x.proof(0, 3, set);
            }
            boolean inDoubt = x.doubt(0, 3, -1) > 0;
            due("a proof in run " + run, proofs > 0, inDoubt);
            doubted += inDoubt ? 1 : 0;
        }
        due("both are met often", doubted > 50 && doubted < 350, true);
    }

    public static void main(String[] args) {
        Edges.run(YarnEdgesTest.class);
    }
}
