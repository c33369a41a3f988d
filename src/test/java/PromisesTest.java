/** For each promise of the document ordinary inputs, its edges and wrong inputs, with answers worked out by hand. */
public final class PromisesTest {
    private static final int LOW = Integer.MIN_VALUE;
    private static final int HIGH = Integer.MAX_VALUE;
    private static int wrong = 0;
    private static int asked = 0;

    private static void due(String what, long got, long want) {
        asked++;
        if (got != want) {
            wrong++;
            System.out.println(what + " answered " + got + ", due is " + want);
        }
    }

    private static void due(String what, boolean got, boolean want) {
        due(what, got ? 1 : 0, want ? 1 : 0);
    }

    private static void feedText(LinenBoard x, String text) {
        x.end(0);
        int[] five = new int[5];
        for (int from = 0; from < text.length(); from += 20) {
            for (int i = 0; i < 5; i++) {
                five[i] = 0;
                for (int j = 0; j < 4; j++) {
                    int place = from + 4 * i + j;
                    five[i] = five[i] << 8 | (place < text.length() ? text.charAt(place) & 255 : 0);
                }
            }
            x.feed(five[0], five[1], five[2], five[3], five[4]);
        }
        x.end(text.length());
    }

    private static int act(LinenBoard x, String text) {
        feedText(x, text);
        return x.act();
    }

    /** An act in force from today on to the last day. */
    private static int inForce(LinenBoard x, String text) {
        int act = act(x, text);
        due("act of " + text, act >= 0, true);
        x.force(act, x.about(0), 999);
        return act;
    }

    private static void faulty(String text, int fault, int place) {
        LinenBoard x = new LinenBoard();
        due("act of '" + text + "'", act(x, text), -1);
        due("fault(0) of '" + text + "'", x.fault(0), fault);
        due("fault(1) of '" + text + "'", x.fault(1), place);
        due("no act of '" + text + "'", x.about(6), 0);
        due("no tape behind '" + text + "'", x.about(13), 0);
    }

    private static void sound(String text) {
        LinenBoard x = new LinenBoard();
        due("act of '" + text + "'", act(x, text), 0);
        due("fault(0) of '" + text + "'", x.fault(0), 0);
        due("fault(1) of '" + text + "'", x.fault(1), -1);
    }

    /** A town by the board's inch, a person there, a web of 100 by 50, 10 long, measured from day 0. */
    private static LinenBoard oneWeb() {
        LinenBoard x = new LinenBoard();
        x.town(100);
        x.person(0, 0);
        x.web(0);
        x.measure(0, 0, 100, 50, 10, 0);
        return x;
    }

    /** What a sum is by the bounty and the fine, of which one is 0: sums below 0 can't be seen otherwise. */
    private static long valueOf(String sum) {
        LinenBoard x = oneWeb();
        inForce(x, "bounty " + sum + ";fine 0-(" + sum + ");");
        return (long) x.sum(0, 0, 0, 1) - x.sum(0, 0, 0, 2);
    }

    private static void value(String sum, long want) {
        due("value of " + sum, valueOf(sum), want);
    }

    private static void asks(String either, boolean want) {
        LinenBoard x = oneWeb();
        inForce(x, "seal " + either + ";");
        due("whether " + either, x.board(0, 0, 0, 5) == -1, want);
    }

    private static String repeat(String text, int times) {
        StringBuilder all = new StringBuilder();
        for (int i = 0; i < times; i++) {
            all.append(text);
        }
        return all.toString();
    }

    private static void p1newObject() {
        LinenBoard x = new LinenBoard();
        for (int what = 0; what <= 13; what++) {
            due("1: about(" + what + ")", x.about(what), 0);
        }
        due("1: allow", x.about(14), 1);
        due("1: fault", x.fault(0), -1);
        x.town(100);
        x.days(3);
        due("1: the image is the new object", x.back(), 0);
        due("1: no towns", x.about(1), 0);
        due("1: NONE", LinenBoard.NONE, -1);
    }

    private static void p2town() {
        LinenBoard x = new LinenBoard();
        int[] bad = {79, 121, 0, -1, LOW, HIGH};
        for (int inch : bad) {
            due("2: town(" + inch + ")", x.town(inch), -1);
        }
        for (int i = 0; i < 6; i++) {
            due("2: town " + i, x.town(i % 2 == 0 ? 80 : 120), i);
        }
        due("2: the seventh", x.town(100), -1);
        due("2: towns", x.about(1), 6);
    }

    private static void p3person() {
        LinenBoard x = new LinenBoard();
        due("3: without towns", x.person(0, 0), -1);
        x.town(100);
        int[][] bad = {{1, 0}, {-1, 0}, {0, -1}, {0, 10}, {LOW, 0}, {0, HIGH}};
        for (int[] b : bad) {
            due("3: person(" + b[0] + ", " + b[1] + ")", x.person(b[0], b[1]), -1);
        }
        for (int i = 0; i < 30; i++) {
            due("3: person " + i, x.person(0, i % 10), i);
        }
        due("3: the 31st", x.person(0, 0), -1);
        due("3: persons", x.about(2), 30);
    }

    private static void p4die() {
        LinenBoard x = oneWeb();
        due("4: die(1)", x.die(1), -1);
        due("4: die(-1)", x.die(-1), -1);
        for (int i = 0; i < 10; i++) {
            due("4: die " + i, x.die(0), i);
        }
        due("4: the 11th", x.die(0), -1);
        due("4: dies", x.about(3), 10);
    }

    private static void p5flaw() {
        LinenBoard x = oneWeb();
        x.die(0);
        x.days(5);
        int[][] bad = {{1, 0, 0}, {-1, 0, 0}, {0, 16, 0}, {0, -1, 0}, {0, 0, -1}, {0, 0, 6}, {0, 0, HIGH}};
        for (int[] b : bad) {
            due("5: flaw(" + b[0] + ", " + b[1] + ", " + b[2] + ")", x.flaw(b[0], b[1], b[2]), false);
        }
        due("5: flaw 0 from the clock's day", x.flaw(0, 0, 5), true);
        due("5: it has it", x.flaw(0, 0, 5), false);
        due("5: it has it, earlier", x.flaw(0, 0, 0), false);
        due("5: flaw 15 from day 0", x.flaw(0, 15, 0), true);
        due("5: a die keeps its own", x.die(0), 1);
        due("5: so the other lacks it", x.flaw(1, 15, 0), true);
    }

    private static void p6web() {
        LinenBoard x = new LinenBoard();
        due("6: without persons", x.web(0), -1);
        x.town(90);
        x.person(0, 0);
        due("6: web(1)", x.web(1), -1);
        due("6: web(-1)", x.web(-1), -1);
        for (int i = 0; i < 50; i++) {
            due("6: web " + i, x.web(0), i);
        }
        due("6: the 51st", x.web(0), -1);
        due("6: webs", x.about(4), 50);
    }

    private static void p7measure() {
        LinenBoard x = oneWeb();
        int[][] bad = {
            {1, 0, 1, 1, 1, 0}, {-1, 0, 1, 1, 1, 0}, {0, -1, 1, 1, 1, 0}, {0, 1000, 1, 1, 1, 0},
            {0, 0, 0, 1, 1, 0}, {0, 0, 201, 1, 1, 0}, {0, 0, 1, 0, 1, 0}, {0, 0, 1, 100, 1, 0},
            {0, 0, 1, 1, 0, 0}, {0, 0, 1, 1, 61, 0}, {0, 0, 1, 1, 1, -1}, {0, 0, 1, 1, 1, 21}};
        for (int[] b : bad) {
            due("7: wrong measure", x.measure(b[0], b[1], b[2], b[3], b[4], b[5]), -1);
        }
        due("7: the least", x.measure(0, 0, 1, 1, 1, 0), 2);
        due("7: the most", x.measure(0, 999, 200, 99, 60, 20), 3);
        for (int i = 4; i <= 200; i++) {
            due("7: measures", x.measure(0, 1, 2, 3, 4, 5), i);
        }
        due("7: the 201st", x.measure(0, 1, 2, 3, 4, 5), -1);
        due("7: measures", x.about(5), 200);
    }

    private static void p7told() {
        LinenBoard x = oneWeb();
        x.days(10);
        x.measure(0, 4, 44, 50, 10, 0);
        x.days(10);
        x.measure(0, 2, 22, 50, 10, 0);
        x.measure(0, 4, 45, 50, 10, 0);
        x.measure(0, 30, 30, 50, 10, 0);
        due("7: ahead of the later one", x.board(0, 3, 20, 0), 22);
        due("7: not told yet on day 19", x.board(0, 3, 19, 0), 100);
        due("7: of like ones the latest told", x.board(0, 4, 20, 0), 45);
        due("7: as known ahead of it", x.board(0, 4, 19, 0), 44);
        due("7: as known ahead of that", x.board(0, 4, 9, 0), 100);
        due("7: from the latest day", x.board(0, 29, 20, 0), 45);
        due("7: from a day to come", x.board(0, 30, 20, 0), 30);
        due("7: on the last day", x.board(0, 999, 999, 0), 30);
        x.web(0);
        x.measure(1, 7, 50, 50, 10, 0);
        due("7: none from day 6", x.board(1, 6, 20, 0), -2);
        due("7: none known on day 19", x.board(1, 7, 19, 0), -2);
        due("7: from day 7", x.board(1, 7, 20, 0), 50);
    }

    private static void p8board() {
        LinenBoard x = new LinenBoard();
        x.town(80);
        x.town(119);
        x.person(0, 0);
        x.person(1, 0);
        x.web(0);
        x.web(1);
        x.measure(0, 0, 199, 99, 60, 3);
        x.measure(1, 0, 101, 99, 1, 20);
        due("8: 199 * 80 / 100", x.board(0, 0, 0, 0), 159);
        due("8: 99 * 100 / 80", x.board(0, 0, 0, 1), 123);
        due("8: length", x.board(0, 0, 0, 2), 60);
        due("8: weeks", x.board(0, 0, 0, 3), 3);
        due("8: 101 * 119 / 100", x.board(1, 0, 0, 0), 120);
        due("8: 99 * 100 / 119", x.board(1, 0, 0, 1), 83);
        due("8: no sort", x.board(0, 0, 0, 4), -1);
        due("8: lacks nothing", x.board(0, 0, 0, 5), -1);
        int[][] bad = {{2, 0, 0, 0}, {-1, 0, 0, 0}, {0, -1, 0, 0}, {0, 1000, 0, 0}, {0, 0, -1, 0}, {0, 0, 1000, 0},
            {0, 0, 0, -1}, {0, 0, 0, 6}};
        for (int[] b : bad) {
            due("8: wrong board", x.board(b[0], b[1], b[2], b[3]), -2);
        }
        x.force(act(x, "shrink 7;"), 5, 6);
        // 159 - 11, 148 - 10, 138 - 9
        due("8: shrunk by the act of the day", x.board(0, 5, 0, 0), 129);
        due("8: on its last day", x.board(0, 6, 0, 0), 129);
        due("8: behind it", x.board(0, 7, 0, 0), 159);
        due("8: ahead of it", x.board(0, 4, 0, 0), 159);
    }

    private static void p8sorts() {
        LinenBoard x = oneWeb();
        inForce(x, "sort 3 width>100;sort 9 width>=100;sort 0 1=1;seal sort=9;seal sort#9;seal 1=2;");
        due("8: the first that is so", x.board(0, 0, 0, 4), 9);
        due("8: the clause among all of them", x.board(0, 0, 0, 5), 4);
        LinenBoard y = oneWeb();
        inForce(y, "sort 7 sort=0;seal sort=7;");
        due("8: in sort sort is 0", y.board(0, 0, 0, 4), 7);
        due("8: in seal it is the web's", y.board(0, 0, 0, 5), -1);
        LinenBoard z = oneWeb();
        inForce(z, "sort 7 sort#0;seal sort=10;bounty sort;");
        due("8: none is so", z.board(0, 0, 0, 4), -1);
        due("8: NONE is 10", z.board(0, 0, 0, 5), -1);
        due("8: NONE is 10 in sums", z.sum(0, 0, 0, 1), 10);
        LinenBoard u = oneWeb();
        u.town(100);
        u.person(1, 0);
        u.web(1);
        u.measure(1, 0, 77, 33, 22, 11);
        inForce(u, "sort 5 width=77 and count=33 and length=22 and weeks=11 and town=1 and day=8;");
        due("8: the names", u.board(1, 8, 8, 4), 5);
        due("8: another day", u.board(1, 9, 9, 4), -1);
    }

    private static void p9days() {
        LinenBoard x = new LinenBoard();
        int[] bad = {0, -1, 201, LOW, HIGH};
        for (int n : bad) {
            due("9: days(" + n + ")", x.days(n), -1);
        }
        due("9: 1", x.days(1), 1);
        for (int i = 1; i < 5; i++) {
            due("9: 200", x.days(200), 1 + 200 * i);
        }
        due("9: beyond 999", x.days(199), -1);
        due("9: to 999", x.days(198), 999);
        due("9: one more", x.days(1), -1);
        due("9: the clock", x.about(0), 999);
    }

    private static void p10feed() {
        LinenBoard x = new LinenBoard();
        for (int i = 1; i <= 15; i++) {
            due("10: bytes", x.feed(0, 0, 0, 0, 0), 20 * i);
        }
        due("10: more than 300", x.feed(0, 0, 0, 0, 0), -1);
        due("10: none came", x.about(13), 300);
        x.end(281);
        due("10: 301", x.feed(0, 0, 0, 0, 0), -1);
        x.end(280);
        due("10: 300", x.feed(0, 0, 0, 0, 0), 300);
        LinenBoard y = new LinenBoard();
        // "fee 1234" with the highest byte first, a byte above 127 behind it
        y.feed(0x66656520, 0x31323334, 0x80000000, 0, 0);
        due("10: a byte above 127 is none", y.act(), -1);
        due("10: its place", y.fault(1), 8);
        y.feed(0x66656520, 0x31323334, 0x3b202020, 0x20202020, 0x0a0a0a0a);
        due("10: in order", y.act(), 0);
    }

    private static void p11end() {
        LinenBoard x = new LinenBoard();
        due("11: end(0)", x.end(0), 0);
        due("11: end(1)", x.end(1), -1);
        x.feed(0x66656520, 0x313b6665, 0x6520323b, 0, 0);
        due("11: end(21)", x.end(21), -1);
        due("11: end(-1)", x.end(-1), -1);
        due("11: nothing is done", x.about(13), 20);
        due("11: end(20)", x.end(20), 20);
        due("11: end(6)", x.end(6), 6);
        due("11: not back again", x.end(7), -1);
        due("11: fee 1;", x.act(), 0);
    }

    private static void p12act() {
        LinenBoard x = new LinenBoard();
        due("12: an empty text", x.act(), 0);
        due("12: read", x.fault(0), 0);
        feedText(x, "level 7;");
        due("12: a text", x.act(), 1);
        due("12: the tape is empty then", x.about(13), 0);
        feedText(x, "level 7");
        due("12: a fault", x.act(), -1);
        due("12: the tape is empty then too", x.about(13), 0);
        for (int i = 2; i < 10; i++) {
            due("12: act " + i, act(x, "fee " + i + ";"), i);
        }
        feedText(x, "fee");
        due("12: there are 10", x.act(), -1);
        due("12: the tape stays", x.about(13), 3);
        due("12: it was not read", x.fault(0), 0);
        due("12: acts", x.about(6), 10);
    }

    private static void p13fault() {
        LinenBoard x = new LinenBoard();
        due("13: ahead of any", x.fault(0), -1);
        due("13: its place", x.fault(1), -1);
        act(x, "fee");
        due("13: 0", x.fault(0), 1);
        due("13: 1", x.fault(1), 3);
        due("13: 2", x.fault(2), -1);
        due("13: -1", x.fault(-1), -1);
        x.back();
        due("13: an image has no fault", x.fault(0), 1);
        act(x, "fee 1;");
        due("13: of the latest", x.fault(0), 0);
        due("13: without", x.fault(1), -1);
    }

    private static void p13places() {
        faulty("x", 1, 0);
        faulty(" \n fee1", 1, 7);
        faulty("fee 1 ", 1, 6);
        faulty("fee\t1;", 1, 3);
        faulty("fee 1;;", 1, 6);
        faulty("1;", 1, 0);
        faulty("width 1;", 1, 0);
        faulty("and 1;", 1, 0);
        faulty("fee fee;", 1, 4);
        faulty("fee Width;", 1, 4);
        faulty("fee widths;", 1, 4);
        faulty("fee wid;", 1, 4);
        faulty("fee 1<2;", 1, 5);
        faulty("fee 1 2;", 1, 6);
        faulty("fee 1 20000;", 1, 6);
        faulty("fee );", 1, 4);
        faulty("fee (1;", 1, 6);
        faulty("fee (1<2);", 1, 6);
        faulty("fee 1);", 1, 5);
        faulty("fee (1,2);", 1, 6);
        faulty("fee +1;", 1, 4);
        faulty("fee 1+;", 1, 6);
        faulty("fee 1+*2;", 1, 6);
        faulty("fee min(1);", 1, 9);
        faulty("fee min(1,2,3);", 1, 11);
        faulty("fee max;", 1, 7);
        faulty("fee min 1,2;", 1, 8);
        faulty("fee not 1;", 1, 4);
        faulty("fee !;", 1, 4);
        faulty("seal 1;", 1, 6);
        faulty("seal 1=2=3;", 1, 8);
        faulty("seal (1=2);", 1, 7);
        faulty("seal 1==2;", 1, 7);
        faulty("seal 1=<2;", 1, 7);
        faulty("seal 1< =2;", 1, 8);
        faulty("seal 1=1 and;", 1, 12);
        faulty("seal 1=1 or;", 1, 11);
        faulty("seal 1=1 not 1=1;", 1, 9);
        faulty("seal not;", 1, 8);
        faulty("seal 1 and 2;", 1, 7);
        faulty("seal andor;", 1, 5);
        faulty("sort 1;", 1, 6);
        faulty("sort width=1;", 1, 5);
        faulty("sort;", 1, 4);
        faulty("shrink;", 1, 6);
        faulty("shrink 1+1;", 1, 8);
        faulty("shrink -1;", 1, 7);
        faulty("level width;", 1, 6);
        faulty("feeZ 1;", 1, 0);
        faulty("feeA1;", 1, 0);
        faulty("feez 1;", 1, 0);
        faulty("afee 1;", 1, 0);
        faulty("fee@1;", 1, 3);
        faulty("fee[1;", 1, 3);
        faulty("fee`1;", 1, 3);
        faulty("fee{1;", 1, 3);
        faulty("fee 1:2;", 1, 5);
        faulty("fee 1.2;", 1, 5);
        LinenBoard x = new LinenBoard();
        feedText(x, "fee 1;fee 2;");
        x.end(8);
        due("13: what was cut off is no part of a token", x.act(), -1);
        due("13: fe", x.fault(0), 1);
        due("13: its place", x.fault(1), 6);
        sound("fee " + repeat("1+", 147) + "1;");
        faulty("fee " + repeat("1+", 147) + "1)", 1, 299);
        faulty("fee " + repeat("1+", 148), 1, 300);
        faulty(repeat(";", 300), 1, 0);
    }

    private static void p13numbers() {
        faulty("sort 10 1=1;", 2, 5);
        faulty("shrink 21;", 2, 7);
        faulty("yield 0;", 2, 6);
        faulty("yield 100;", 2, 6);
        faulty("hank 0;", 2, 5);
        faulty("hank 501;", 2, 5);
        faulty("level 101;", 2, 6);
        faulty("fee 10000;", 2, 4);
        faulty("fee 4294967297;", 2, 4);
        faulty("fee 1+99999999999999999999999999;", 2, 6);
        faulty("seal 1=10000;", 2, 7);
        sound("sort 0 1=1;sort 9 1=1;sort 9 1=1;");
        sound("shrink 0;yield 1;hank 1;level 0;");
        sound("shrink 20;yield 99;hank 500;level 100;");
        sound("fee 9999;");
        sound("fee 0000000000000009999;sort 000009 1=1;");
        sound("fee1;bounty2+width*3;");
        sound("sort3width<5and4<6;");
        sound(" fee\n1 ; ");
        sound("prize width=0 and sort=0 and town=0 and day=0;prize 1=1;");
        sound("");
        sound("   ");
    }

    private static void p13depth() {
        sound("fee ((((((((1))))))));");
        faulty("fee (((((((((1)))))))));", 3, 12);
        sound("fee --------1;");
        faulty("fee ---------1;", 3, 12);
        faulty("fee 1----------1;", 3, 14);
        sound("fee 1---------1;");
        sound("seal " + repeat("not ", 8) + "1=1;");
        faulty("seal " + repeat("not ", 9) + "1=1;", 3, 37);
        faulty("seal not ((((((((1))))))))=1;", 3, 16);
        sound("seal not (((((((1)))))))=1 and ((((((((1))))))))=1;");
        faulty("seal " + repeat("not ", 8) + "-1=1;", 3, 37);
        faulty("seal " + repeat("not ", 8) + "1=-1;", 3, 39);
        faulty("seal " + repeat("not ", 8) + "min(1,1)=1;", 3, 40);
        faulty("seal " + repeat("not ", 8) + "min 1;", 1, 41);
        sound("fee " + repeat("min(", 8) + "1" + repeat(",1)", 8) + ";");
        faulty("fee " + repeat("min(", 9) + "1" + repeat(",1)", 9) + ";", 3, 4 + 8 * 4 + 3);
        sound("fee " + repeat("max(1,", 8) + "1" + repeat(")", 8) + ";");
        faulty("fee " + repeat("max(1,", 9) + "1" + repeat(")", 9) + ";", 3, 4 + 8 * 6 + 3);
        sound("fee " + repeat("(1)+-1-", 20) + "1;");
        faulty("fee -(-(-(-(-(1)))));", 3, 12);
        sound("fee -(-(-(-(1))));");
        faulty("fee " + repeat("(", 9), 3, 12);
    }

    private static void p13twiceAndMany() {
        String[] once = {"fee 1;", "bounty 1;", "fine 1;", "shrink 1;", "yield 1;", "hank 1;", "level 1;"};
        for (String clause : once) {
            faulty(clause + clause, 4, clause.length());
            faulty("seal 1=1;" + clause + "sort 1 1=1;" + clause, 4, 9 + clause.length() + 11);
        }
        sound("sort 1 1=1;sort 1 1=1;seal 1=1;seal 1=1;prize 1=1;prize 1=1;");
        String twenty = repeat("seal 1=1;", 20);
        sound(twenty);
        faulty(twenty + "fee 1;", 5, 180);
        faulty(twenty + "fee", 5, 180);
        faulty(twenty + " hank 0;", 5, 181);
        faulty(twenty + "x", 1, 180);
        faulty(twenty + ";", 1, 180);
        faulty("fee 1;" + repeat("seal 1=1;", 19) + "fee 1;", 4, 177);
        faulty("fee 1;" + repeat("seal 1=1;", 19) + "bounty 1;", 5, 177);
        sound("sort 1 1=1;fee 1;bounty 1;fine 1;shrink 1;yield 1;hank 1;level 1;prize 1=1;seal 1=1;");
    }

    private static void p14force() {
        LinenBoard x = oneWeb();
        due("14: without acts", x.force(0, 0, 0), -1);
        act(x, "fee 1;");
        act(x, "fee 2;bounty 5;");
        act(x, "");
        x.days(10);
        int[][] bad = {{3, 10, 10}, {-1, 10, 10}, {0, 9, 10}, {0, 11, 10}, {0, 10, 1000}, {0, -1, 10}, {0, 1000, 1000}};
        for (int[] b : bad) {
            due("14: force(" + b[0] + ", " + b[1] + ", " + b[2] + ")", x.force(b[0], b[1], b[2]), -1);
        }
        due("14: from the clock's day", x.force(0, 10, 999), 0);
        due("14: one day", x.force(1, 12, 12), 1);
        due("14: an act that tells nothing", x.force(2, 12, 12), 2);
        due("14: the first", x.sum(0, 11, 10, 0), 1);
        due("14: the one told latest", x.sum(0, 12, 10, 0), 2);
        due("14: each sort of clause by itself", x.sum(0, 12, 10, 1), 5);
        due("14: behind it the first again", x.sum(0, 13, 10, 0), 1);
        due("14: no bounty then", x.sum(0, 13, 10, 1), 0);
        due("14: ahead of all", x.sum(0, 9, 10, 0), 0);
        due("14: told anew", x.force(0, 12, 12), 3);
        due("14: the latest told", x.sum(0, 12, 10, 0), 1);
        due("14: the other sort stays", x.sum(0, 12, 10, 1), 5);
        for (int i = 4; i < 30; i++) {
            due("14: force " + i, x.force(0, 999, 999), i);
        }
        due("14: the 31st", x.force(0, 999, 999), -1);
        due("14: forces", x.about(7), 30);
    }

    private static void p15sum() {
        LinenBoard x = oneWeb();
        inForce(x, "fee width;bounty 3-count;fine length*length;");
        due("15: fee", x.sum(0, 0, 0, 0), 100);
        due("15: 0 at least", x.sum(0, 0, 0, 1), 0);
        due("15: fine", x.sum(0, 0, 0, 2), 100);
        int[][] bad = {{1, 0, 0, 0}, {-1, 0, 0, 0}, {0, -1, 0, 0}, {0, 1000, 0, 0}, {0, 0, -1, 0}, {0, 0, 1000, 0},
            {0, 0, 0, -1}, {0, 0, 0, 3}};
        for (int[] b : bad) {
            due("15: wrong sum", x.sum(b[0], b[1], b[2], b[3]), -1);
        }
        x.web(0);
        due("15: without measures", x.sum(1, 0, 0, 0), -1);
    }

    private static void p15values() {
        value("1+2*3", 7);
        value("(1+2)*3", 9);
        value("10-3-4", 3);
        value("100/7/3", 4);
        value("100/7*3", 42);
        value("2*3/4*5", 5);
        value("-7/2", -3);
        value("7/-2", -3);
        value("-7/-2", 3);
        value("-2*3+1", -5);
        value("1--2", 3);
        value("---2", -2);
        value("5/0", 0);
        value("-5/0", 0);
        value("0/5", 0);
        value("min(3,2)", 2);
        value("max(3,2)", 3);
        value("min(-3,2)*max(4,5)", -15);
        value("max(min(1,2),min(4,3))-1", 2);
        value("9999*9999", 99980001);
        value("9999*9999*9999", 1000000000);
        value("9999*9999*9999-1", 999999999);
        value("-9999*9999*9999", -1000000000);
        value("-9999*9999*9999+1", -999999999);
        value("9999*9999*9999*-9999", -1000000000);
        value("9999*9999*9999+9999*9999*9999-9999*9999*9999", 0);
        value("9999*9999*9999*(9999*9999*9999)", 1000000000);
        value("9999*9999*9999/-1", -1000000000);
        value("9999*9999*10+9999*2", 999820008);
        value("9999*9999*10+9999*9999", 1000000000);
        value("-9999*9999*10-9999*9999", -1000000000);
        value("width-count*2-length", -10);
        value("day+town+weeks", 0);
        asks("1<2", true);
        asks("2<2", false);
        asks("2<=2", true);
        asks("3<=2", false);
        asks("2>1", true);
        asks("2>2", false);
        asks("2>=2", true);
        asks("1>=2", false);
        asks("2=2", true);
        asks("2=3", false);
        asks("2#3", true);
        asks("2#2", false);
        asks("not 1=1", false);
        asks("not not 1=1", true);
        asks("not 1=2 and 1=2", false);
        asks("1=1 or 1=1 and 1=2", true);
        asks("1=2 and 1=2 or 1=1", true);
        asks("1=2 and 1=1 or 1=2", false);
        asks("1=1 and 1=2 or 1=2 and 1=1", false);
        asks("1=1 and 1=1 and 1=1", true);
        asks("1=2 or 1=2 or 1=1", true);
        asks("not 1=1 or not 1=2", true);
        asks("1+1=4/2", true);
    }

    private static void p16says() {
        LinenBoard x = new LinenBoard();
        int[] untold = {0, 10, 100, 5};
        for (int what = 0; what < 4; what++) {
            due("16: untold", x.says(0, what), untold[what]);
            due("16: untold on the last day", x.says(999, what), untold[what]);
        }
        act(x, "shrink 0;yield 1;hank 500;level 100;");
        act(x, "level 0;hank 1;yield 99;shrink 20;");
        x.force(0, 1, 2);
        x.force(1, 2, 3);
        int[] first = {0, 1, 500, 100};
        int[] second = {20, 99, 1, 0};
        for (int what = 0; what < 4; what++) {
            due("16: the first", x.says(1, what), first[what]);
            due("16: the second", x.says(2, what), second[what]);
            due("16: the second alone", x.says(3, what), second[what]);
            due("16: behind both", x.says(4, what), untold[what]);
        }
        due("16: says(0, 4)", x.says(0, 4), -1);
        due("16: says(0, -1)", x.says(0, -1), -1);
        due("16: says(-1, 0)", x.says(-1, 0), -1);
        due("16: says(1000, 0)", x.says(1000, 0), -1);
    }

    private static void p17seal() {
        LinenBoard x = oneWeb();
        x.die(0);
        x.web(0);
        x.measure(1, 5, 100, 50, 10, 0);
        int[][] bad = {{1, 0, 0}, {-1, 0, 0}, {0, 2, 0}, {0, -1, 0}, {0, 0, -1}, {0, 0, 65536}, {0, 1, 0}};
        for (int[] b : bad) {
            due("17: seal(" + b[0] + ", " + b[1] + ", " + b[2] + ")", x.seal(b[0], b[1], b[2]), -1);
        }
        due("17: any flaws", x.seal(0, 0, 65535), 0);
        x.days(5);
        due("17: measures from today", x.seal(0, 1, 0), 1);
        for (int i = 2; i < 80; i++) {
            due("17: seal " + i, x.seal(0, 0, 0), i);
        }
        due("17: the 81st", x.seal(0, 0, 0), -1);
        due("17: seals", x.about(8), 80);
    }

    private static void p18sealOf() {
        LinenBoard x = oneWeb();
        x.web(0);
        x.measure(1, 0, 90, 50, 10, 0);
        x.die(0);
        x.die(0);
        x.days(3);
        x.seal(1, 1, 0);
        int[] want = {1, 1, 3, 0, 1, 0};
        for (int what = 0; what < 6; what++) {
            due("18: sealOf(0, " + what + ")", x.sealOf(0, what), want[what]);
        }
        due("18: sealOf(0, 6)", x.sealOf(0, 6), -1);
        due("18: sealOf(0, -1)", x.sealOf(0, -1), -1);
        due("18: sealOf(1, 0)", x.sealOf(1, 0), -1);
        due("18: sealOf(-1, 0)", x.sealOf(-1, 0), -1);
        x.days(2);
        x.flaw(1, 15, 4);
        due("18: a flaw from a later day", x.sealOf(0, 3), 0);
        x.flaw(1, 1, 3);
        due("18: a flaw from that day, told late", x.sealOf(0, 3), 1);
        due("18: so it isn't good", x.sealOf(0, 4), 0);
        x.seal(1, 0, 32770);
        due("18: both flaws", x.sealOf(1, 3), 0);
        x.seal(1, 0, 32771);
        due("18: one too many", x.sealOf(2, 3), 1);
        x.seal(0, 0, 0);
        due("18: the other die has none", x.sealOf(3, 3), 0);
    }

    private static void p18good() {
        LinenBoard x = oneWeb();
        x.die(0);
        x.seal(0, 0, 0);
        due("18: good without an act", x.sealOf(0, 4), 1);
        act(x, "seal width>=100;");
        x.force(0, 0, 0);
        due("18: good by the act", x.sealOf(0, 4), 1);
        x.days(1);
        x.measure(0, 1, 50, 50, 10, 0);
        due("18: measures from a later day", x.sealOf(0, 4), 1);
        x.measure(0, 0, 99, 50, 10, 0);
        due("18: put right late", x.sealOf(0, 4), 0);
        x.seal(0, 0, 0);
        due("18: no act on the later day", x.sealOf(1, 4), 1);
        x.force(0, 1, 1);
        due("18: an act told behind the seal", x.sealOf(1, 4), 0);
        x.measure(0, 0, 100, 50, 10, 0);
        due("18: put right again", x.sealOf(0, 4), 1);
        due("18: the other one stays", x.sealOf(1, 4), 0);
    }

    private static void p19look() {
        LinenBoard x = oneWeb();
        x.die(0);
        x.seal(0, 0, 0);
        x.seal(0, 0, 1);
        due("19: good", x.look(0), 0);
        due("19: bad", x.look(1), 1);
        due("19: look(2)", x.look(2), -1);
        due("19: look(-1)", x.look(-1), -1);
        x.flaw(0, 0, 0);
        due("19: now the other way round", x.look(0), 1);
        due("19: now the other way round", x.look(1), 0);
        due("19: what was looked at stays", x.kind(0, 1), 2);
        for (int i = 4; i < 200; i++) {
            due("19: looks", x.look(1), 0);
        }
        due("19: the 201st", x.look(1), -1);
        due("19: looks", x.about(9), 200);
    }

    private static void p20allow() {
        LinenBoard x = new LinenBoard();
        due("20: at first", x.about(14), 1);
        int[] bad = {-1, 10, LOW, HIGH};
        for (int v : bad) {
            due("20: allow(" + v + ")", x.allow(v), false);
        }
        due("20: 0", x.allow(0), true);
        due("20: it is", x.about(14), 0);
        due("20: 9", x.allow(9), true);
        due("20: it is", x.about(14), 9);
    }

    private static void p21kind() {
        LinenBoard x = oneWeb();
        x.person(0, 1);
        x.die(0);
        x.die(1);
        x.die(0);
        x.seal(0, 0, 0);
        x.seal(0, 0, 1);
        x.seal(1, 0, 1);
        x.seal(2, 0, 1);
        due("21: kind(2, 0)", x.kind(2, 0), -1);
        due("21: kind(-1, 0)", x.kind(-1, 0), -1);
        due("21: kind(0, 4)", x.kind(0, 4), -1);
        due("21: kind(0, -1)", x.kind(0, -1), -1);
        for (int person = 0; person < 2; person++) {
            due("21: n", x.kind(person, 0), 0);
            due("21: k", x.kind(person, 1), 0);
            due("21: the chance of none", x.kind(person, 2), 1);
            due("21: not too kind", x.kind(person, 3), 0);
        }
        x.look(1);
        x.look(3);
        x.look(2);
        due("21: both dies", x.kind(0, 0), 2);
        due("21: both bad", x.kind(0, 1), 2);
        due("21: 1 of 100", x.kind(0, 2), 1);
        due("21: 100 * 1 < 5 * 100", x.kind(0, 3), 1);
        due("21: 1 of 10", x.kind(1, 2), 1);
        due("21: 100 * 1 < 5 * 10 isn't so", x.kind(1, 3), 0);
        inForce(x, "level 10;");
        due("21: 100 * 1 < 10 * 10 isn't so", x.kind(1, 3), 0);
        inForce(x, "level 11;");
        due("21: 100 * 1 < 11 * 10", x.kind(1, 3), 1);
        for (int i = 0; i < 11; i++) {
            x.look(0);
        }
        due("21: the latest 12", x.kind(0, 0), 12);
        due("21: the first has gone", x.kind(0, 1), 1);
        // 10^12 - 9^12
        due("21: at least one", x.kind(0, 2), 1000000000000L - 282429536481L);
        x.allow(3);
        due("21: at least one with 3 in 10", x.kind(0, 2), 1000000000000L - 13841287201L);
        x.look(1);
        // less 12 * 3 * 7^11 besides
        due("21: one bad still, as one has gone", x.kind(0, 1), 1);
        x.look(1);
        due("21: two bad", x.kind(0, 1), 2);
        due("21: at least two", x.kind(0, 2), 1000000000000L - 13841287201L - 36L * 1977326743L);
        x.allow(0);
        due("21: with 0 in 10 none", x.kind(0, 2), 0);
        LinenBoard y = oneWeb();
        y.die(0);
        y.seal(0, 0, 0);
        y.seal(0, 0, 1);
        y.look(0);
        y.look(0);
        y.look(1);
        y.allow(9);
        due("21: at least one of three", y.kind(0, 2), 999);
        inForce(y, "level 100;");
        due("21: 99900 < 100000", y.kind(0, 3), 1);
        inForce(y, "level 99;");
        due("21: 99900 < 99000 isn't so", y.kind(0, 3), 0);
    }

    private static void p22claim() {
        LinenBoard x = oneWeb();
        x.web(0);
        x.die(0);
        inForce(x, "bounty length*2;fee 3;");
        due("22: claim(2)", x.claim(2), -1);
        due("22: claim(-1)", x.claim(-1), -1);
        due("22: without a seal", x.claim(0), 0);
        due("22: not paid", x.claimOf(0, 2), -1);
        due("22: without measures", x.claim(1), 1);
        due("22: not paid", x.claimOf(1, 2), -1);
        x.seal(0, 0, 1);
        due("22: a forged one", x.claim(0), 2);
        due("22: not paid", x.claimOf(2, 2), -1);
        x.seal(0, 0, 0);
        x.days(4);
        x.measure(0, 3, 100, 50, 20, 0);
        due("22: a good one", x.claim(0), 3);
        due("22: 2 * 20 - 3, by the measures of the day", x.claimOf(3, 2), 37);
        due("22: once", x.claim(0), 4);
        due("22: not paid", x.claimOf(4, 2), -1);
        x.undo(3);
        inForce(x, "fee 50;");
        due("22: again", x.claim(0), 5);
        due("22: 0 at least", x.claimOf(5, 2), 0);
        due("22: it stands", x.claim(0), 6);
        due("22: so not paid", x.claimOf(6, 2), -1);
        due("22: 0 can be undone", x.undo(5), true);
        for (int i = 7; i < 80; i++) {
            due("22: claim " + i, x.claim(1), i);
        }
        due("22: the 81st", x.claim(0), -1);
        due("22: claims", x.about(10), 80);
    }

    private static void p23claimOf() {
        LinenBoard x = oneWeb();
        x.web(0);
        x.measure(1, 0, 100, 50, 10, 0);
        x.die(0);
        x.seal(0, 1, 0);
        inForce(x, "bounty 7;");
        x.days(2);
        x.claim(1);
        int[] want = {1, 2, 7, -1};
        for (int what = 0; what < 4; what++) {
            due("23: claimOf(0, " + what + ")", x.claimOf(0, what), want[what]);
        }
        x.days(3);
        x.undo(0);
        due("23: undone on", x.claimOf(0, 3), 5);
        due("23: what was paid", x.claimOf(0, 2), 7);
        due("23: claimOf(0, 4)", x.claimOf(0, 4), -1);
        due("23: claimOf(0, -1)", x.claimOf(0, -1), -1);
        due("23: claimOf(1, 0)", x.claimOf(1, 0), -1);
        due("23: claimOf(-1, 0)", x.claimOf(-1, 0), -1);
    }

    private static void p24undo() {
        LinenBoard x = oneWeb();
        x.die(0);
        x.claim(0);
        due("24: not paid", x.undo(0), false);
        due("24: undo(1)", x.undo(1), false);
        due("24: undo(-1)", x.undo(-1), false);
        x.seal(0, 0, 0);
        x.claim(0);
        due("24: paid", x.undo(1), true);
        due("24: undone", x.undo(1), false);
        due("24: on day 0", x.claimOf(1, 3), 0);
    }

    private static void p25fined() {
        LinenBoard x = oneWeb();
        x.person(0, 1);
        x.person(0, 2);
        x.die(0);
        inForce(x, "fine 100;");
        x.seal(0, 0, 1);
        x.seal(0, 0, 2);
        x.seal(0, 0, 0);
        int[][] bad = {
            {3, 0, 1, 2, 1, 1, 1}, {-1, 0, 1, 2, 1, 1, 1}, {0, 3, 1, 2, 1, 1, 1}, {0, 0, -1, 2, 1, 1, 1},
            {0, 0, 1, 3, 1, 1, 0}, {0, 0, 1, 2, -1, 1, 1}, {0, 0, 1, 2, 10, 1, 1}, {0, 0, 1, 2, 1, 10, 1},
            {0, 0, 1, 2, 1, 1, 10}, {0, 0, 1, 2, 1, 1, -1}, {0, 0, 1, 2, 0, 0, 0}, {2, 0, 1, 2, 1, 1, 1}};
        for (int[] b : bad) {
            due("25: wrong fined", x.fined(b[0], b[1], b[2], b[3], b[4], b[5], b[6]), -1);
        }
        due("25: not fined yet", x.sealOf(0, 5), 0);
        due("25: fined", x.fined(0, 2, 1, 0, 0, 7, 4), 100);
        due("25: it was", x.sealOf(0, 5), 1);
        due("25: once", x.fined(0, 2, 1, 0, 0, 7, 4), -1);
        // 100 * 7 / 11 = 63, 100 * 4 / 11 = 36, what is left over to the first
        due("25: what is left over", x.book(12), 1);
        due("25: 7 of 11", x.book(11), 63);
        due("25: 4 of 11", x.book(10), 36);
        due("25: all to one", x.fined(1, 1, 1, 1, 9, 9, 9), 100);
        due("25: 63 + 100", x.book(11), 163);
        LinenBoard y = oneWeb();
        y.die(0);
        y.seal(0, 0, 1);
        due("25: no fine is 0", y.fined(0, 0, 0, 0, 1, 0, 0), 0);
        due("25: once too", y.fined(0, 0, 0, 0, 1, 0, 0), -1);
        LinenBoard z = oneWeb();
        z.die(0);
        z.seal(0, 0, 1);
        z.days(1);
        z.measure(0, 1, 77, 50, 10, 0);
        inForce(z, "fine 9999*9999*width;");
        due("25: of the day, limited", z.fined(0, 0, 0, 0, 9, 9, 0), 1000000000);
        due("25: half and half", z.book(10), 1000000000);
        inForce(z, "fine width;");
        z.seal(0, 0, 2);
        due("25: by the measures of the day", z.fined(1, 0, 0, 0, 9, 9, 0), 77);
    }

    private static void p26book() {
        LinenBoard x = oneWeb();
        x.web(0);
        x.measure(1, 0, 100, 50, 10, 0);
        x.die(0);
        inForce(x, "bounty 9999*9999*9999;fine 9999*9999*9999;");
        due("26: nothing", x.book(0) + x.book(1) + x.book(2) + x.book(10), 0);
        for (int i = 0; i < 4; i++) {
            x.seal(0, 0, 1);
            x.fined(i, 0, 0, 0, 1, 2, 3);
        }
        due("26: fines", x.book(2), 4000000000L);
        due("26: what a person got", x.book(10), 4000000000L);
        x.seal(0, 0, 0);
        x.seal(0, 1, 0);
        for (int i = 0; i < 3; i++) {
            x.claim(0);
            x.undo(i);
        }
        x.claim(0);
        x.claim(1);
        due("26: stands", x.book(0), 2000000000L);
        due("26: came back", x.book(1), 3000000000L);
        int[] bad = {-1, 3, 9, 11, 40, LOW, HIGH};
        for (int what : bad) {
            due("26: book(" + what + ")", x.book(what), -1);
        }
    }

    private static void p27seed() {
        LinenBoard x = oneWeb();
        int[][] bad = {{1, 0}, {-1, 0}, {0, -1}, {0, 100}};
        for (int[] b : bad) {
            due("27: seed(" + b[0] + ", " + b[1] + ")", x.seed(b[0], b[1]), false);
        }
        due("27: 5 pecks", x.seed(0, 5), true);
        due("27: 50 pounds for 51", x.doubt(0, 0, -1), 10);
        due("27: 99 in place of them", x.seed(0, 99), true);
        due("27: are enough", x.doubt(0, 0, -1), 0);
        due("27: 0", x.seed(0, 0), true);
        due("27: are none", x.doubt(0, 0, -1), 10);
        x.seed(0, 3);
        inForce(x, "yield 17;");
        due("27: 3 * 17 pounds", x.doubt(0, 0, -1), 0);
    }

    private static void p28trade() {
        LinenBoard x = oneWeb();
        x.person(0, 1);
        int[][] bad = {{2, 0, 1}, {0, 2, 1}, {-1, 0, 1}, {0, -1, 1}, {0, 0, 1}, {0, 1, -1}, {0, 1, 10000}};
        for (int[] b : bad) {
            due("28: trade(" + b[0] + ", " + b[1] + ", " + b[2] + ")", x.trade(b[0], b[1], b[2]), -1);
        }
        for (int i = 0; i < 40; i++) {
            due("28: trade " + i, x.trade(i % 2, 1 - i % 2, i % 2 == 0 ? 0 : 9999), i);
        }
        due("28: the 41st", x.trade(0, 1, 1), -1);
        due("28: trades", x.about(11), 40);
    }

    private static void p29need() {
        LinenBoard x = oneWeb();
        x.web(0);
        due("29: 100 * 10 * 50 / 1000 + 1", x.need(0), 51);
        due("29: without measures", x.need(1), 0);
        due("29: need(2)", x.need(2), -1);
        due("29: need(-1)", x.need(-1), -1);
        x.measure(1, 2, 1, 1, 1, 0);
        due("29: from a day to come", x.need(1), 0);
        x.days(2);
        due("29: cut, and 1", x.need(1), 1);
        LinenBoard y = new LinenBoard();
        y.town(120);
        y.person(0, 0);
        y.web(0);
        y.measure(0, 0, 199, 99, 59, 1);
        // 199 * 120 / 100 = 238, less 23; 99 * 100 / 120 = 82
        inForce(y, "shrink 10;");
        due("29: by the board", y.need(0), 215 * 59 * 82 / 1000 + 1);
    }

    private static void p30doubt() {
        LinenBoard x = new LinenBoard();
        x.town(100);
        for (int i = 0; i < 4; i++) {
            x.person(0, i);
        }
        for (int i = 0; i < 12; i++) {
            x.web(0);
        }
        due("30: webs without measures", x.doubt(0, 9, -1), 0);
        due("30: none is left out", x.doubt(0, 9, 3), 0);
        int[][] bad = {{0, 10, -1}, {1, 0, -1}, {-1, 0, -1}, {11, 12, -1}, {12, 12, -1}, {2, 5, 1}, {2, 5, 6}, {2, 5, -2}};
        for (int[] b : bad) {
            due("30: doubt(" + b[0] + ", " + b[1] + ", " + b[2] + ")", x.doubt(b[0], b[1], b[2]), -1);
        }
        int[] lengths = {5, 4, 3, 3, 2};
        int[] needs = {50, 40, 30, 30, 20};
        for (int i = 0; i < lengths.length; i++) {
            x.measure(i, 0, 100, 99, lengths[i], 0);
            due("30: need " + i, x.need(i), needs[i]);
        }
        x.seed(0, 12);
        due("30: 120 of 170", x.doubt(0, 4, -1), 5);
        // Webs 0, or 2 and 4, or 3 and 4: of these sets the last keeps the first webs.
        int[] out = {0, 0, 0, 1, 1};
        for (int i = 0; i < 5; i++) {
            due("30: the first by webs, " + i, x.doubt(0, 4, i), out[i]);
        }
        due("30: other webs alone", x.doubt(1, 4, -1), 0);
        x.seed(0, 3);
        // 30 pounds: webs 2, 3 or 4 alone: of length 3 the first one
        due("30: all but one", x.doubt(0, 4, -1), 14);
        due("30: web 2 is kept", x.doubt(0, 4, 2), 0);
        due("30: web 3 isn't", x.doubt(0, 4, 3), 1);
    }

    private static void p30trades() {
        LinenBoard x = new LinenBoard();
        x.town(100);
        for (int i = 0; i < 4; i++) {
            x.person(0, i);
        }
        x.web(2);
        x.web(3);
        x.measure(0, 0, 100, 50, 10, 0);
        x.measure(1, 0, 100, 50, 10, 0);
        x.seed(0, 99);
        due("30: no way there", x.doubt(0, 1, -1), 20);
        x.trade(0, 1, 102);
        due("30: half of the way", x.doubt(0, 1, -1), 20);
        x.trade(1, 2, 101);
        due("30: on and on", x.doubt(0, 1, -1), 10);
        due("30: web 1 is left out", x.doubt(0, 1, 1), 1);
        due("30: web 0 isn't", x.doubt(0, 1, 0), 0);
        x.trade(2, 3, 50);
        due("30: one pound too few", x.doubt(0, 1, -1), 10);
        x.trade(1, 3, 1);
        due("30: just enough, by two ways", x.doubt(0, 1, -1), 0);
        LinenBoard y = new LinenBoard();
        y.town(100);
        for (int i = 0; i < 4; i++) {
            y.person(0, i);
        }
        // Person 0 may give to 1 or to 2; 3 gives to 1 alone: so 1 must do without 0 again.
        y.web(1);
        y.web(2);
        y.measure(0, 0, 100, 50, 10, 0);
        y.measure(1, 0, 100, 50, 10, 0);
        y.seed(0, 6);
        y.seed(3, 6);
        y.trade(0, 1, 60);
        y.trade(0, 2, 60);
        y.trade(3, 1, 60);
        due("30: what went one way goes another", y.doubt(0, 1, -1), 0);
        LinenBoard z = new LinenBoard();
        z.town(100);
        for (int i = 0; i < 30; i++) {
            z.person(0, 0);
        }
        // Forty trades, of which the last ten lead to ten webs, by way of person 29 from person 28.
        for (int i = 0; i < 29; i++) {
            z.trade(29, i, 0);
        }
        z.trade(28, 29, 9999);
        for (int i = 0; i < 10; i++) {
            z.web(i);
            z.measure(i, 0, 100, 50, 10 + i, 0);
            due("30: trade " + i, z.trade(29, i, z.need(i) - (i == 9 ? 1 : 0)), 30 + i);
        }
        z.seed(28, 73);
        // needs 51, 56 .. 96: 735 in all; 730 pounds: one of them is to be left out, the last can't be had
        due("30: the last lacks a pound", z.doubt(0, 9, -1), 19);
        due("30: it alone", z.doubt(0, 9, 9), 1);
        z.seed(28, 63);
        due("30: 630 pounds for 639", z.doubt(0, 9, -1), 29);
        due("30: the first too", z.doubt(0, 9, 0), 1);
        z.web(29);
        z.measure(10, 0, 100, 50, 60, 0);
        due("30: person 29 has what comes to it", z.doubt(10, 10, -1), 0);
        LinenBoard u = oneWeb();
        u.person(0, 0);
        inForce(u, "yield 1;");
        u.seed(0, 50);
        u.trade(1, 0, 1);
        due("30: a pound is lacking", u.doubt(0, 0, -1), 10);
        u.seed(1, 1);
        due("30: one pound more", u.doubt(0, 0, -1), 0);
    }

    private static void p31proof() {
        LinenBoard x = new LinenBoard();
        x.town(100);
        for (int i = 0; i < 3; i++) {
            x.person(0, i);
        }
        for (int i = 0; i < 11; i++) {
            x.web(i % 2);
        }
        x.measure(0, 0, 100, 50, 10, 0);
        x.measure(1, 0, 100, 50, 10, 0);
        due("31: no persons", x.proof(0, 1, 0), 0);
        due("31: person 0 of need 51", x.proof(0, 1, 1), 1);
        due("31: without its web", x.proof(1, 1, 1), 0);
        due("31: person 2 has none", x.proof(0, 1, 4), 0);
        x.seed(0, 5);
        x.trade(2, 0, 1);
        due("31: 50 + 1 pounds", x.proof(0, 1, 1), 0);
        due("31: 51 for 102", x.proof(0, 1, 3), 1);
        due("31: a trade among them isn't from others", x.proof(0, 0, 5), 1);
        x.trade(0, 1, 9999);
        due("31: nor one from them", x.proof(0, 1, 3), 1);
        due("31: but to one of them", x.proof(0, 1, 2), 0);
        int[][] bad = {{0, 1, 8}, {0, 1, -1}, {0, 1, LOW}, {1, 0, 1}, {-1, 0, 1}, {0, 10, 1}, {0, 11, 1}, {0, 1, 1 << 30}};
        for (int[] b : bad) {
            due("31: proof(" + b[0] + ", " + b[1] + ", " + b[2] + ")", x.proof(b[0], b[1], b[2]), -1);
        }
        due("31: ten webs", x.proof(1, 10, 2), 0);
        for (int i = 3; i < 30; i++) {
            x.person(0, 0);
        }
        due("31: all thirty", x.proof(0, 1, (1 << 30) - 1), 1);
        due("31: one that isn't there", x.proof(0, 1, 1 << 30), -1);
    }

    private static void p32prize() {
        LinenBoard x = new LinenBoard();
        due("32: no persons", x.prize(1, 0, 0), -1);
        x.town(100);
        x.town(100);
        for (int i = 0; i < 5; i++) {
            x.person(i % 2, i % 3);
        }
        // s of seed 0: 12345 >>> 16 = 0, so place 0 stays; then 3554416254 >>> 16 = 54236, % 4 = 0: place 1 stays;
        // 2802067423 >>> 16 = 42756, % 3 = 0; 3596950572 >>> 16 = 54885, % 2 = 1: places 3 and 4 change.
        int[] row = {0, 1, 2, 4, 3};
        // kins 0, 1, 2, 1, 0: three prizes alone
        for (int i = 0; i < 3; i++) {
            due("32: prize(30, 0, " + i + ")", x.prize(30, 0, i), row[i]);
        }
        due("32: kin left out", x.prize(30, 0, 3), -1);
        due("32: two prizes", x.prize(2, 0, 1), 1);
        due("32: no third", x.prize(2, 0, 2), -1);
        due("32: prize(0, 0, 0)", x.prize(0, 0, 0), -1);
        due("32: prize(31, 0, 0)", x.prize(31, 0, 0), -1);
        due("32: prize(1, 0, -1)", x.prize(1, 0, -1), -1);
        inForce(x, "prize town=1 and day=0 and width+count+length+weeks+sort=0;prize town=2;sort 3 1=1;");
        due("32: town 1 alone", x.prize(5, 0, 0), 1);
        // persons 1 and 3 of kins 1 and 0
        due("32: and the other one", x.prize(5, 0, 1), 3);
        due("32: no more", x.prize(5, 0, 2), -1);
        x.days(1);
        due("32: not on that day", x.prize(5, 0, 0), -1);
        LinenBoard y = new LinenBoard();
        y.town(100);
        y.person(0, 4);
        y.person(0, 4);
        y.person(0, 5);
        // The second of kin 4 is passed over, and the third has the second prize.
        due("32: the first of its kin", y.prize(2, 0, 0), 0);
        due("32: the next of another kin", y.prize(2, 0, 1), 2);
    }

    private static void p33way() {
        LinenBoard x = new LinenBoard();
        due("33: no towns", x.way(0, 0), -1);
        for (int i = 0; i < 5; i++) {
            x.town(100);
        }
        int[] row = {0, 1, 2, 4, 3};
        for (int i = 0; i < 5; i++) {
            due("33: way(0, " + i + ")", x.way(0, i), row[i]);
        }
        due("33: way(0, 5)", x.way(0, 5), -1);
        due("33: way(0, -1)", x.way(0, -1), -1);
        for (int seed : new int[] {1, -1, LOW, HIGH, 123456789}) {
            int[] want = {0, 1, 2, 3, 4};
            long s = seed & 0xffffffffL;
            for (int i = 0; i < 5; i++) {
                s = (s * 1103515245L + 12345L) & 0xffffffffL;
                int j = i + (int) ((s >> 16) % (5 - i));
                int kept = want[i];
                want[i] = want[j];
                want[j] = kept;
            }
            for (int i = 0; i < 5; i++) {
                due("33: way(" + seed + ", " + i + ")", x.way(seed, i), want[i]);
            }
        }
    }

    private static void p34lot() {
        LinenBoard x = new LinenBoard();
        int[] bad = {0, -1, 41, LOW, HIGH};
        for (int n : bad) {
            due("34: lot(" + n + ")", x.lot(n), -1);
        }
        for (int i = 0; i < 10; i++) {
            due("34: lot " + i, x.lot(i % 2 == 0 ? 1 : 40), i);
        }
        due("34: the 11th", x.lot(1), -1);
        due("34: lots", x.about(12), 10);
    }

    private static void p35draw() {
        LinenBoard x = new LinenBoard();
        x.lot(5);
        due("35: draw(1, 1, 0)", x.draw(1, 1, 0), false);
        due("35: draw(-1, 1, 0)", x.draw(-1, 1, 0), false);
        due("35: draw(0, 0, 0)", x.draw(0, 0, 0), false);
        due("35: draw(0, 6, 0)", x.draw(0, 6, 0), false);
        due("35: 4 of 5", x.draw(0, 4, 0), true);
        due("35: it was done", x.draw(0, 4, 0), false);
        int[] row = {0, 1, 2, 4};
        for (int i = 0; i < 4; i++) {
            due("35: drawn " + i, x.lotOf(0, 100 + i), row[i]);
        }
        x.lot(40);
        due("35: all", x.draw(1, 40, -7), true);
        int seen = 0;
        for (int i = 0; i < 40; i++) {
            seen += x.lotOf(1, 100 + i);
        }
        due("35: each once", seen, 780);
        x.lot(2);
        inForce(x, "hank 7;");
        x.draw(2, 2, 0);
        x.days(1);
        inForce(x, "hank 9;");
        due("35: full is that of the day", x.count(2, 0, 8), false);
        due("35: full is that of the day", x.count(2, 0, 7), true);
    }

    private static void p36count() {
        LinenBoard x = new LinenBoard();
        x.lot(5);
        due("36: not drawn", x.count(0, 0, 0), false);
        x.draw(0, 4, 0);
        due("36: count(1, 0, 0)", x.count(1, 0, 0), false);
        due("36: count(-1, 0, 0)", x.count(-1, 0, 0), false);
        due("36: hank 3 isn't drawn", x.count(0, 3, 0), false);
        due("36: hank 5", x.count(0, 5, 0), false);
        due("36: hank -1", x.count(0, -1, 0), false);
        due("36: -1 threads", x.count(0, 4, -1), false);
        due("36: 101 threads", x.count(0, 4, 101), false);
        due("36: 0 threads", x.count(0, 4, 0), true);
        due("36: is counted", x.lotOf(0, 2), 1);
        due("36: 100 threads", x.count(0, 4, 100), true);
        due("36: anew", x.lotOf(0, 2), 1);
        due("36: together", x.lotOf(0, 3), 100);
        due("36: another", x.count(0, 0, 5), true);
        due("36: together", x.lotOf(0, 3), 105);
        x.lot(40);
        x.draw(1, 40, 99);
        for (int i = 0; i < 40; i++) {
            due("36: each of forty", x.count(1, i, i), true);
        }
        due("36: forty counted", x.lotOf(1, 2), 40);
        due("36: their threads", x.lotOf(1, 3), 780);
    }

    private static void p37lotOf() {
        LinenBoard x = new LinenBoard();
        x.lot(5);
        int[] undrawn = {5, 0, 0, 0};
        for (int what = 0; what < 4; what++) {
            due("37: undrawn " + what, x.lotOf(0, what), undrawn[what]);
        }
        due("37: none is drawn", x.lotOf(0, 100), -1);
        x.draw(0, 4, 0);
        x.count(0, 2, 9);
        x.count(0, 4, 0);
        int[] drawn = {5, 4, 2, 9};
        for (int what = 0; what < 4; what++) {
            due("37: drawn " + what, x.lotOf(0, what), drawn[what]);
        }
        due("37: the last drawn", x.lotOf(0, 103), 4);
        int[] bad = {-1, 4, 99, 104, 140, LOW, HIGH};
        for (int what : bad) {
            due("37: lotOf(0, " + what + ")", x.lotOf(0, what), -1);
        }
        due("37: lotOf(1, 0)", x.lotOf(1, 0), -1);
        due("37: lotOf(-1, 0)", x.lotOf(-1, 0), -1);
    }

    private static void p38judge() {
        LinenBoard x = new LinenBoard();
        x.lot(5);
        due("38: none is drawn", x.judge(0, 0), -1);
        x.draw(0, 4, 0);
        due("38: judge(1, 0)", x.judge(1, 0), -1);
        due("38: judge(-1, 0)", x.judge(-1, 0), -1);
        due("38: judge(0, -1)", x.judge(0, -1), -1);
        due("38: judge(0, 10000)", x.judge(0, 10000), -1);
        due("38: all may be missing", x.judge(0, 499), 1);
        due("38: and are allowed", x.judge(0, 500), 0);
        due("38: far more", x.judge(0, 9999), 0);
        x.count(0, 0, 90);
        x.count(0, 1, 80);
        due("38: 30 are missing", x.judge(0, 29), 2);
        due("38: 30 are allowed", x.judge(0, 30), 1);
        due("38: 330 may be missing", x.judge(0, 329), 1);
        due("38: and are allowed", x.judge(0, 330), 0);
    }

    private static void p39market() {
        LinenBoard x = oneWeb();
        x.die(0);
        x.seal(0, 0, 0);
        due("39: at first nothing is told", x.tried(-1, 0), 1);
        int[][] bad = {{-1, 0, 0}, {100, 0, 0}, {0, -1, 0}, {0, 100, 0}, {0, 0, -1}, {0, 0, 10000}};
        for (int[] b : bad) {
            due("39: market(" + b[0] + ", " + b[1] + ", " + b[2] + ")", x.market(b[0], b[1], b[2]), false);
        }
        due("39: 98, 99, 9999", x.market(98, 99, 9999), true);
        due("39: home is better", x.tried(-1, 0), 0);
        due("39: wrong ones change nothing", x.market(99, 100, 0), false);
        due("39: home is better still", x.tried(-1, 0), 0);
        due("39: 99, 99, 0", x.market(99, 99, 0), true);
        due("39: as good out", x.tried(-1, 0), 1);
    }

    private static void p40tried() {
        LinenBoard x = oneWeb();
        for (int i = 1; i < 4; i++) {
            x.web(0);
            x.measure(i, 0, 100, 50, 10 + i, 2);
        }
        x.die(0);
        for (int i = 0; i < 3; i++) {
            x.seal(0, i, 0);
            x.seal(0, i, 0);
        }
        x.seal(0, 3, 1);
        inForce(x, "seal width=100;bounty 10*length;fee 20+sort;sort 4 1=1;");
        x.market(5, 12, 110);
        // bounties 100, 110, 120 less 24; length 10 to 12 times 7 is to be made up for
        due("40: 76, 86, 96 against 70, 77, 84", x.tried(-1, 0), 3);
        due("40: together", x.tried(-1, 1), 258);
        due("40: above 110", x.tried(-1, 2), 1);
        due("40: tried(0, 0)", x.tried(0, 0), 3);
        due("40: tried(1, 0)", x.tried(1, 0), -1);
        due("40: tried(-2, 0)", x.tried(-2, 0), -1);
        due("40: tried(-1, 3)", x.tried(-1, 3), -1);
        due("40: tried(-1, -1)", x.tried(-1, -1), -1);
        act(x, "seal 1=2;bounty width;shrink 10;");
        // widths 100, 81, 81 less 24: 76 >= 70, 57 < 77, 57 < 84; the seals are good by what is in force truly
        due("40: another act", x.tried(1, 0), 1);
        due("40: together", x.tried(1, 1), 76);
        x.market(5, 12, 80);
        due("40: smuggled, shipped or not", x.tried(1, 2), 3);
        due("40: nothing is changed", x.about(7), 1);
        due("40: nor the width", x.board(1, 0, 0, 0), 100);
        act(x, "fee 9999;sort 1 1=1;");
        x.market(99, 0, 0);
        // out 990, 1089, 1188 less 9999 and more 100, 110, 120
        due("40: below 0 and not made up for", x.tried(2, 0), 0);
        act(x, "fee 1000;");
        due("40: below 0, but made up for", x.tried(3, 0), 3);
        due("40: each 0 at least", x.tried(3, 1), 0);
        act(x, "fee sort;sort 1 length=10;sort 2 1=1;");
        due("40: by its own sorts", x.tried(4, 1), 330 - 1 - 2 - 2);
        LinenBoard y = oneWeb();
        y.die(0);
        y.seal(0, 0, 0);
        act(y, "bounty 9999*9999*9999;");
        for (int i = 1; i < 5; i++) {
            y.web(0);
            y.measure(i, 0, 1, 1, 1, 0);
            y.seal(0, i, 0);
        }
        due("40: beyond 32 bits", y.tried(0, 1), 5000000000L);
    }

    private static void p41image() {
        LinenBoard x = oneWeb();
        x.days(2);
        due("41: image", x.image(), 2);
        x.days(3);
        due("41: back", x.back(), 2);
        x.days(7);
        due("41: another one", x.image(), 9);
        x.days(1);
        due("41: back to that", x.back(), 9);
        due("41: it stays", x.back(), 9);
    }

    private static void p42back() {
        LinenBoard x = oneWeb();
        x.person(0, 1);
        x.die(0);
        x.flaw(0, 0, 0);
        x.seal(0, 0, 0);
        x.seal(0, 0, 1);
        inForce(x, "bounty 50;fine 30;prize day=0;");
        x.look(0);
        x.claim(0);
        x.seed(0, 6);
        x.lot(4);
        x.draw(0, 2, 0);
        x.count(0, 0, 50);
        x.market(1, 1, 1);
        x.allow(2);
        x.image();
        feedText(x, "fee 1;");
        act(x, "bounty 70;fine 60;");
        x.force(1, 0, 999);
        x.measure(0, 0, 1, 1, 1, 0);
        x.flaw(0, 1, 0);
        x.fined(0, 1, 1, 1, 1, 1, 1);
        x.undo(0);
        x.seed(0, 0);
        x.trade(0, 1, 5);
        x.count(0, 0, 60);
        x.lot(3);
        x.draw(1, 1, 0);
        x.market(9, 9, 9);
        x.allow(5);
        x.look(1);
        x.claim(0);
        x.town(100);
        x.person(0, 0);
        x.web(0);
        x.die(0);
        x.days(4);
        act(x, "fee");
        feedText(x, "fee 2;");
        due("42: back", x.back(), 0);
        int[] want = {0, 1, 2, 1, 1, 1, 1, 1, 2, 1, 1, 0, 1, 6, 2};
        for (int what = 0; what < want.length; what++) {
            due("42: about(" + what + ")", x.about(what), want[what]);
        }
        due("42: the latest fault stays", x.fault(0), 1);
        due("42: measures", x.board(0, 0, 0, 0), 100);
        due("42: flaws", x.sealOf(1, 3), 0);
        due("42: fined", x.sealOf(0, 5), 0);
        due("42: fines", x.book(2), 0);
        due("42: undone", x.claimOf(0, 3), -1);
        due("42: book", x.book(0), 50);
        due("42: seed", x.doubt(0, 0, -1), 0);
        due("42: counted", x.lotOf(0, 3), 50);
        due("42: looks", x.kind(0, 1), 1);
        due("42: bounty", x.sum(0, 0, 0, 1), 50);
        due("42: the tape stays", x.act(), 1);
        due("42: and is another act", x.force(1, 0, 0), 1);
        due("42: a fee", x.sum(0, 0, 0, 0), 2);
        due("42: a new lot isn't drawn", x.lot(3), 1);
        due("42: a new lot isn't drawn", x.lotOf(1, 1), 0);
        due("42: a new die has no flaws", x.die(1), 1);
        due("42: a new die has no flaws", x.flaw(1, 1, 0), true);
        due("42: a new person has no seed", x.person(0, 3), 2);
    }

    private static void p42clean() {
        LinenBoard x = oneWeb();
        x.die(0);
        x.image();
        x.person(0, 1);
        x.seed(1, 50);
        x.die(1);
        x.flaw(1, 3, 0);
        x.seal(0, 0, 1);
        x.fined(0, 0, 0, 0, 1, 1, 1);
        x.lot(3);
        x.draw(0, 3, 0);
        x.count(0, 0, 9);
        x.back();
        x.person(0, 1);
        x.web(1);
        x.measure(1, 0, 100, 50, 10, 0);
        due("42: no seed of one that is gone", x.doubt(1, 1, -1), 10);
        x.die(1);
        due("42: no flaw of one that is gone", x.flaw(1, 3, 0), true);
        x.seal(0, 0, 1);
        due("42: not fined as one that is gone", x.sealOf(0, 5), 0);
        x.lot(3);
        due("42: not drawn as one that is gone", x.lotOf(0, 1), 0);
        x.draw(0, 3, 0);
        due("42: not counted as one that is gone", x.lotOf(0, 2), 0);
    }

    private static void p43about() {
        LinenBoard x = oneWeb();
        x.days(7);
        x.person(0, 1);
        for (int i = 0; i < 3; i++) {
            x.die(0);
        }
        for (int i = 0; i < 3; i++) {
            x.web(0);
        }
        for (int i = 0; i < 4; i++) {
            x.measure(0, 0, 1, 1, 1, 0);
        }
        for (int i = 0; i < 6; i++) {
            x.act();
        }
        for (int i = 0; i < 9; i++) {
            x.force(0, 7, 7);
        }
        for (int i = 0; i < 8; i++) {
            x.seal(0, 0, 0);
        }
        for (int i = 0; i < 10; i++) {
            x.look(0);
        }
        for (int i = 0; i < 11; i++) {
            x.claim(0);
        }
        for (int i = 0; i < 12; i++) {
            x.trade(0, 1, 1);
        }
        for (int i = 0; i < 7; i++) {
            x.lot(2);
        }
        x.feed(0, 0, 0, 0, 0);
        x.end(13);
        x.allow(8);
        int[] want = {7, 1, 2, 3, 4, 5, 6, 9, 8, 10, 11, 12, 7, 13, 8};
        for (int what = 0; what < want.length; what++) {
            due("43: about(" + what + ")", x.about(what), want[what]);
        }
        int[] bad = {-1, 15, LOW, HIGH};
        for (int what : bad) {
            due("43: about(" + what + ")", x.about(what), -1);
        }
    }

    public static void main(String[] args) {
        p1newObject();
        p2town();
        p3person();
        p4die();
        p5flaw();
        p6web();
        p7measure();
        p7told();
        p8board();
        p8sorts();
        p9days();
        p10feed();
        p11end();
        p12act();
        p13fault();
        p13places();
        p13numbers();
        p13depth();
        p13twiceAndMany();
        p14force();
        p15sum();
        p15values();
        p16says();
        p17seal();
        p18sealOf();
        p18good();
        p19look();
        p20allow();
        p21kind();
        p22claim();
        p23claimOf();
        p24undo();
        p25fined();
        p26book();
        p27seed();
        p28trade();
        p29need();
        p30doubt();
        p30trades();
        p31proof();
        p32prize();
        p33way();
        p34lot();
        p35draw();
        p36count();
        p37lotOf();
        p38judge();
        p39market();
        p40tried();
        p41image();
        p42back();
        p42clean();
        p43about();
        System.out.println(asked + " answers, " + wrong + " not as due");
        if (wrong != 0) {
            System.exit(1);
        }
    }
}
