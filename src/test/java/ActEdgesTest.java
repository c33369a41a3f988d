/** Edges of promises 10 to 16: the tape, texts and their faults, forces, sums, what acts say. */
public final class ActEdgesTest {
    private static final int LOW = Edges.LOW;
    private static final int HIGH = Edges.HIGH;
    // "fee " is 0x66656520, "1;" and two blanks are 0x313b2020.
    private static final int FEE = 0x66656520;
    private static final int ONE_STOP = 0x313b2020;
    private static final int BLANKS = 0x20202020;

    private static void due(String what, long got, long want) {
        Edges.due(what, got, want);
    }

    private static void faulty(String text, int fault, int place) {
        Edges.faulty(text, fault, place);
    }

    private static void sound(String text) {
        Edges.sound(text);
    }

    private static void value(String sum, long want) {
        Edges.value(sum, want);
    }

    private static void asks(String either, boolean want) {
        Edges.asks(either, want);
    }

    // ---- promise 10

    @Edges.Says("Twenty bytes come behind the tape, the highest of a first: how many it has.")
    static void p10feed_twentyBytesACall() {
        LinenBoard x = new LinenBoard();
        due("the first", x.feed(0, 0, 0, 0, 0), 20);
        due("the second", x.feed(-1, -1, -1, -1, -1), 40);
        due("about(13)", x.about(13), 40);
    }

    @Edges.Says("the highest of a first:")
    static void p10feed_theHighestByteFirst() {
        LinenBoard x = new LinenBoard();
        x.feed(FEE, ONE_STOP, BLANKS, BLANKS, BLANKS);
        due("'fee 1;'", x.act(), 0);
    }

    @Edges.Says("the highest of a first:")
    static void p10feed_eachNumberBehindTheOneBefore() {
        LinenBoard x = new LinenBoard();
        // "boun" "ty 1" ";fee" " 2; " "fin?": the fault is at the fifth number.
        x.feed(0x626f756e, 0x74792031, 0x3b666565, 0x20323b20, 0x66696e3f);
        due("act()", x.act(), -1);
        due("its place", x.fault(1), 16);
    }

    @Edges.Says("Twenty bytes come behind the tape,")
    static void p10feed_comesBehindWhatWasLeft() {
        LinenBoard x = new LinenBoard();
        x.feed(FEE, BLANKS, BLANKS, BLANKS, BLANKS);
        x.end(4);
        due("feed", x.feed(ONE_STOP, BLANKS, BLANKS, BLANKS, BLANKS), 24);
        due("'fee 1;'", x.act(), 0);
    }

    @Edges.Says("Twenty bytes come behind the tape,")
    static void p10feed_bytesAbove127AreBytes() {
        LinenBoard x = new LinenBoard();
        x.feed(0xa0656520, BLANKS, BLANKS, BLANKS, BLANKS);
        due("byte 160 is no blank", x.act(), -1);
        due("its place", x.fault(1), 0);
        x.feed(0x20202020, 0xff202020, BLANKS, BLANKS, BLANKS);
        due("byte 255 is none", x.act(), -1);
        due("its place", x.fault(1), 4);
    }

    @Edges.Says("NONE, and none come, if there would be more than 300.")
    static void p10feed_300BytesAreTheMost() {
        LinenBoard x = new LinenBoard();
        for (int i = 1; i <= 15; i++) {
            due("feed " + i, x.feed(0, 0, 0, 0, 0), 20 * i);
        }
        due("the 16th", x.feed(0, 0, 0, 0, 0), -1);
        due("about(13)", x.about(13), 300);
    }

    @Edges.Says("NONE, and none come, if there would be more than 300.")
    static void p10feed_301BytesAreTooMany() {
        LinenBoard x = new LinenBoard();
        for (int i = 1; i <= 15; i++) {
            x.feed(0, 0, 0, 0, 0);
        }
        x.end(281);
        due("281 and 20", x.feed(0, 0, 0, 0, 0), -1);
        due("none come", x.about(13), 281);
        x.end(280);
        due("280 and 20", x.feed(0, 0, 0, 0, 0), 300);
    }

    @Edges.Says("NONE, and none come, if there would be more than 300.")
    static void p10feed_refusedBytesLeaveTheText() {
        LinenBoard x = new LinenBoard();
        for (int i = 1; i <= 14; i++) {
            x.feed(BLANKS, BLANKS, BLANKS, BLANKS, BLANKS);
        }
        x.feed(BLANKS, BLANKS, BLANKS, FEE, ONE_STOP);
        x.feed(0, 0, 0, 0, 0);
        due("the text is as it was", x.act(), 0);
    }

    // ---- promise 11

    @Edges.Says("The tape has its first n bytes alone: n.")
    static void p11end_keepsTheFirstBytes() {
        LinenBoard x = new LinenBoard();
        x.feed(FEE, 0x313b3f3f, BLANKS, BLANKS, BLANKS);
        due("end(6)", x.end(6), 6);
        due("about(13)", x.about(13), 6);
        due("'fee 1;'", x.act(), 0);
    }

    @Edges.Says("The tape has its first n bytes alone: n.")
    static void p11end_whatWasCutOffIsNoPartOfAToken() {
        LinenBoard x = new LinenBoard();
        x.feed(FEE, 0x313b6665, 0x65203232, BLANKS, BLANKS);
        x.end(8);
        due("'fee 1;fe'", x.act(), -1);
        due("its fault", x.fault(0), 1);
        due("its place", x.fault(1), 6);
        // "shri" "nk 2" "1;  "
        x.feed(0x73687269, 0x6e6b2032, 0x313b2020, BLANKS, BLANKS);
        x.end(8);
        due("'shrink 2'", x.act(), -1);
        due("its fault", x.fault(0), 1);
        due("its place", x.fault(1), 8);
        x.feed(FEE, 0x39393939, 0x393b2020, BLANKS, BLANKS);
        x.end(8);
        x.feed(0x3b202020, BLANKS, BLANKS, BLANKS, BLANKS);
        due("'fee 9999' and ';'", x.act(), 0);
        x.feed(0x7365616c, 0x20313c3d, BLANKS, BLANKS, BLANKS);
        x.end(7);
        x.feed(0x323b2020, BLANKS, BLANKS, BLANKS, BLANKS);
        due("'seal 1<' and '2;'", x.act(), 1);
    }

    @Edges.Says("The tape has its first n bytes alone: n.")
    static void p11end_allOfThem() {
        LinenBoard x = new LinenBoard();
        x.feed(0, 0, 0, 0, 0);
        due("end(20)", x.end(20), 20);
        due("about(13)", x.about(13), 20);
    }

    @Edges.Says("The tape has its first n bytes alone: n.")
    static void p11end_none() {
        LinenBoard x = new LinenBoard();
        x.feed(0, 0, 0, 0, 0);
        due("end(0)", x.end(0), 0);
        due("about(13)", x.about(13), 0);
        due("end(0) of an empty tape", x.end(0), 0);
    }

    @Edges.Says("NONE, and nothing is done, if it has not so many,")
    static void p11end_moreThanItHas() {
        LinenBoard x = new LinenBoard();
        due("end(1) of an empty tape", x.end(1), -1);
        x.feed(0, 0, 0, 0, 0);
        due("end(21)", x.end(21), -1);
        due("end(HIGH)", x.end(HIGH), -1);
        due("about(13)", x.about(13), 20);
        x.end(5);
        due("what was cut off doesn't come back", x.end(6), -1);
        due("about(13)", x.about(13), 5);
    }

    @Edges.Says("or n is below 0.")
    static void p11end_below0() {
        LinenBoard x = new LinenBoard();
        x.feed(0, 0, 0, 0, 0);
        due("end(-1)", x.end(-1), -1);
        due("end(LOW)", x.end(LOW), -1);
        due("about(13)", x.about(13), 20);
    }

    // ---- promise 12

    @Edges.Says({"The tape (empty then) is an ACT: its number.", "ACTS 0 .. 9: texts of up to 300 bytes."})
    static void p12act_numbersFrom0To9() {
        LinenBoard x = new LinenBoard();
        for (int i = 0; i <= 9; i++) {
            due("act " + i, Edges.act(x, "fee " + i + ";"), i);
        }
    }

    @Edges.Says("The tape (empty then) is an ACT: its number.")
    static void p12act_emptiesTheTape() {
        LinenBoard x = new LinenBoard();
        Edges.act(x, "fee 1;");
        due("about(13)", x.about(13), 0);
        due("end(1)", x.end(1), -1);
    }

    @Edges.Says("{CLAUSE}, 20 at most:")
    static void p12act_anEmptyTextIsAnAct() {
        LinenBoard x = new LinenBoard();
        due("act()", x.act(), 0);
        due("fault(0)", x.fault(0), 0);
        due("about(6)", x.about(6), 1);
    }

    @Edges.Says("{CLAUSE}, 20 at most:")
    static void p12act_aTextOfBlanksIsAnAct() {
        sound(" \n ");
    }

    @Edges.Says("ACTS 0 .. 9: texts of up to 300 bytes.")
    static void p12act_aTextOf300Bytes() {
        LinenBoard x = Edges.oneWeb();
        String text = "fee " + "1+".repeat(147) + "1;";
        due("bytes", text.length(), 300);
        Edges.inForce(x, text);
        due("its sum", x.sum(0, 0, 0, 0), 148);
    }

    @Edges.Says("ACTS 0 .. 9: texts of up to 300 bytes.")
    static void p12act_aTextOf300BytesWithAFaultInItsLast() {
        faulty("fee " + "1+".repeat(147) + "1)", 1, 299);
        faulty("fee " + "1+".repeat(148), 1, 300);
        faulty(" ".repeat(299) + ";", 1, 299);
        faulty("x".repeat(300), 1, 0);
        faulty(";".repeat(300), 1, 0);
    }

    @Edges.Says("NONE: it has a FAULT;")
    static void p12act_aFaultyTextIsNoAct() {
        LinenBoard x = new LinenBoard();
        due("act()", Edges.act(x, "fee 1"), -1);
        due("about(6)", x.about(6), 0);
        due("the next one", Edges.act(x, "fee 1;"), 0);
    }

    @Edges.Says({"The tape (empty then) is an ACT: its number.", "NONE: it has a FAULT;"})
    static void p12act_aFaultyTextLeavesTheTapeEmpty() {
        LinenBoard x = new LinenBoard();
        Edges.act(x, "fee 1");
        due("about(13)", x.about(13), 0);
    }

    private static LinenBoard tenActs() {
        LinenBoard x = Edges.oneWeb();
        for (int i = 0; i < 10; i++) {
            Edges.act(x, "fee " + (10 + i) + ";");
        }
        return x;
    }

    @Edges.Says("or (the tape stays) there are 10.")
    static void p12act_the11thIsNoneAndTheTapeStays() {
        LinenBoard x = tenActs();
        due("the 11th", Edges.act(x, "fee 99;"), -1);
        due("about(13)", x.about(13), 7);
        due("about(6)", x.about(6), 10);
        x.force(9, 0, 0);
        due("the tenth is as it was", x.sum(0, 0, 0, 0), 19);
    }

    @Edges.Says("or (the tape stays) there are 10.")
    static void p12act_the11thTextIsNotRead() {
        LinenBoard x = tenActs();
        due("a faulty 11th", Edges.act(x, "fee"), -1);
        due("about(13)", x.about(13), 3);
        due("the latest fault", x.fault(0), 0);
        due("its place", x.fault(1), -1);
    }

    @Edges.Says("or (the tape stays) there are 10.")
    static void p12act_theTapeThatStayedCanBeRead() {
        LinenBoard x = new LinenBoard();
        for (int i = 0; i < 9; i++) {
            x.act();
        }
        x.image();
        x.act();
        Edges.feedText(x, "fee 1;");
        due("the 11th", x.act(), -1);
        x.back();
        due("there are 9", x.act(), 9);
        due("about(13)", x.about(13), 0);
    }

    // ---- promise 13: what is asked

    @Edges.Says("NONE for others, and ahead of any.")
    static void p13fault_aheadOfAnyTextIsNone() {
        LinenBoard x = new LinenBoard();
        due("fault(0)", x.fault(0), -1);
        due("fault(1)", x.fault(1), -1);
    }

    @Edges.Says("NONE for others, and ahead of any.")
    static void p13fault_aFedTextIsntReadYet() {
        LinenBoard x = new LinenBoard();
        Edges.feedText(x, "fee;");
        due("fault(0)", x.fault(0), -1);
    }

    @Edges.Says("NONE for others, and ahead of any.")
    static void p13fault_otherQuestionsAreNone() {
        LinenBoard x = new LinenBoard();
        Edges.act(x, "fee;");
        for (int what : new int[] {-1, 2, LOW, HIGH}) {
            due("fault(" + what + ")", x.fault(what), -1);
        }
    }

    @Edges.Says("Of the latest text that was read: 0 its FAULT (0 without), 1 its place (NONE without).")
    static void p13fault_withoutAFault() {
        LinenBoard x = new LinenBoard();
        Edges.act(x, "fee;");
        Edges.act(x, "fee 1;");
        due("fault(0)", x.fault(0), 0);
        due("fault(1)", x.fault(1), -1);
    }

    @Edges.Says("Of the latest text that was read: 0 its FAULT (0 without), 1 its place (NONE without).")
    static void p13fault_ofTheLatestText() {
        LinenBoard x = new LinenBoard();
        Edges.act(x, "fee;");
        Edges.act(x, "shrink 21;");
        due("fault(0)", x.fault(0), 2);
        due("fault(1)", x.fault(1), 7);
    }

    // ---- promise 13: tokens

    @Edges.Says("TOKENS, blanks (32, 10) aside:")
    static void p13fault_blanksMayStandBetweenTokens() {
        sound("\n fee\n1 ; \n");
        sound("seal 1 \n<= 2 and 3\n>\n2;");
        sound("fee min ( 1 , 2 ) ;");
    }

    @Edges.Says("TOKENS, blanks (32, 10) aside:")
    static void p13fault_blanksMayLackBetweenTokens() {
        sound("fee1;bounty2+width*3;");
        sound("sort3width<5and4<6;");
    }

    @Edges.Says({"TOKENS, blanks (32, 10) aside:", "1 it can't stand there, or is none."})
    static void p13fault_otherBytesAreNoBlanks() {
        for (char c : new char[] {0, 9, 11, 12, 13, 31, 33, 127, 128, 133, 160, 255}) {
            faulty("fee" + c + "1;", 1, 3);
        }
    }

    @Edges.Says("letters a .. z, A .. Z one behind the other (one TOKEN),")
    static void p13fault_lettersMakeOneToken() {
        faulty("feefee 1;", 1, 0);
        faulty("shrinks 1;", 1, 0);
        faulty("bountybounty 1;", 1, 0);
        faulty("abcdefg 1 1=1;", 1, 0);
        faulty("fee lengths;", 1, 4);
        faulty("fee widths;", 1, 4);
        faulty("fee wid;", 1, 4);
        faulty("seal 1=1 andor 1=1;", 1, 9);
        faulty("fee minmax(1,2);", 1, 4);
    }

    @Edges.Says("letters a .. z, A .. Z one behind the other (one TOKEN),")
    static void p13fault_aBlankPartsAToken() {
        faulty("fe e 1;", 1, 0);
        faulty("fee 1 1;", 1, 6);
        faulty("seal 1< =2;", 1, 8);
        faulty("fee wi dth;", 1, 4);
    }

    @Edges.Says("letters a .. z, A .. Z one behind the other (one TOKEN),")
    static void p13fault_lettersAAndZAreLetters() {
        faulty("fee 1;azAZ;", 1, 6);
        faulty("feea1;", 1, 0);
        faulty("feez1;", 1, 0);
        faulty("feeA1;", 1, 0);
        faulty("feeZ1;", 1, 0);
    }

    @Edges.Says({"letters a .. z, A .. Z one behind the other (one TOKEN),", "1 it can't stand there, or is none."})
    static void p13fault_theBytesBesideLettersAreNone() {
        for (char c : new char[] {'@', '[', '`', '{', '_'}) {
            faulty("fee" + c + "1;", 1, 3);
        }
    }

    @Edges.Says("letters a .. z, A .. Z one behind the other (one TOKEN),")
    static void p13fault_largeLettersAreOtherLetters() {
        faulty("Fee 1;", 1, 0);
        faulty("fee Width;", 1, 4);
        faulty("seal NOT 1=1;", 1, 5);
    }

    @Edges.Says("digits likewise (NUMBERS, 0 .. 9999),")
    static void p13fault_digitsMakeOneNumber() {
        sound("fee 1234;");
        faulty("fee 12 34;", 1, 7);
        faulty("fee 12a;", 1, 6);
    }

    @Edges.Says("digits likewise (NUMBERS, 0 .. 9999),")
    static void p13fault_digits0And9AreDigits() {
        sound("fee 0;");
        sound("fee 9;");
        sound("fee 9090;");
    }

    @Edges.Says({"digits likewise (NUMBERS, 0 .. 9999),", "1 it can't stand there, or is none."})
    static void p13fault_theBytesBesideDigitsAreNone() {
        faulty("fee 1:2;", 1, 5);
        faulty("fee 1.2;", 1, 5);
        faulty("fee 1/;", 1, 6);
    }

    @Edges.Says({"digits likewise (NUMBERS, 0 .. 9999),", "2 a NUMBER that isn't one of those told."})
    static void p13fault_9999IsTheLargestNumber() {
        sound("fee 9999;");
        sound("seal 9999=9999;");
        faulty("fee 10000;", 2, 4);
        faulty("seal 10000=1;", 2, 5);
        faulty("seal 1=10000;", 2, 7);
        faulty("fee min(1,10000);", 2, 10);
    }

    @Edges.Says({"digits likewise (NUMBERS, 0 .. 9999),", "2 a NUMBER that isn't one of those told."})
    static void p13fault_numbersDontWrapAround() {
        faulty("fee 4294967297;", 2, 4);
        faulty("fee 2147483648;", 2, 4);
        faulty("fee 18446744073709551617;", 2, 4);
        faulty("fee " + "9".repeat(295) + ";", 2, 4);
        faulty("shrink 4294967297;", 2, 7);
    }

    @Edges.Says("digits likewise (NUMBERS, 0 .. 9999),")
    static void p13fault_zerosAheadAreNoOtherNumber() {
        sound("fee 0000000009999;sort 0009 1=1;");
        faulty("fee 00010000;", 2, 4);
    }

    @Edges.Says("<= >= < > = # + - * / ( ) , ; (the longest).")
    static void p13fault_eachSignIsAToken() {
        sound("seal 1<=2;seal 1>=2;seal 1<2;seal 1>2;seal 1=2;seal 1#2;fee (1+2-3)*4/min(5,6);");
    }

    @Edges.Says("<= >= < > = # + - * / ( ) , ; (the longest).")
    static void p13fault_theLongestSignIsTaken() {
        asks("2<=2", true);
        asks("2>=2", true);
        faulty("seal 1<==2;", 1, 8);
        faulty("seal 1>==2;", 1, 8);
    }

    @Edges.Says({"<= >= < > = # + - * / ( ) , ; (the longest).", "1 it can't stand there, or is none."})
    static void p13fault_otherPairsAreTwoTokens() {
        faulty("seal 1=<2;", 1, 7);
        faulty("seal 1=>2;", 1, 7);
        faulty("seal 1==2;", 1, 7);
        faulty("seal 1<>2;", 1, 7);
        faulty("seal 1#=2;", 1, 7);
        faulty("fee 2**3;", 1, 6);
    }

    @Edges.Says({"<= >= < > = # + - * / ( ) , ; (the longest).", "1 it can't stand there, or is none."})
    static void p13fault_otherSignsAreNone() {
        for (char c : "!\"$%&'.:?\\]^|}~".toCharArray()) {
            faulty("fee 1" + c + "2;", 1, 5);
        }
    }

    // ---- promise 13: clauses

    @Edges.Says("sort NUMBER EITHER ; (0 .. 9)")
    static void p13fault_sortsAre0To9() {
        sound("sort 0 1=1;");
        sound("sort 9 1=1;");
    }

    @Edges.Says({"sort NUMBER EITHER ; (0 .. 9)", "2 a NUMBER that isn't one of those told."})
    static void p13fault_sort10IsTooLarge() {
        faulty("sort 10 1=1;", 2, 5);
        faulty("sort 10000 1=1;", 2, 5);
    }

    @Edges.Says("sort NUMBER EITHER ; (0 .. 9)")
    static void p13fault_sortWantsItsParts() {
        faulty("sort", 1, 4);
        faulty("sort;", 1, 4);
        faulty("sort width=1;", 1, 5);
        faulty("sort 1;", 1, 6);
        faulty("sort -1 1=1;", 1, 5);
        faulty("sort 1 1=1", 1, 10);
    }

    @Edges.Says("or seal EITHER ; or prize EITHER ;")
    static void p13fault_sealAndPrizeWantTheirParts() {
        for (String kind : new String[] {"seal ", "prize "}) {
            int n = kind.length();
            sound(kind + "1=1;");
            faulty(kind + ";", 1, n);
            faulty(kind + "1;", 1, n + 1);
            faulty(kind + "1=;", 1, n + 2);
            faulty(kind + "1=1", 1, n + 3);
            faulty(kind, 1, n);
        }
    }

    @Edges.Says("or fee SUM ; or bounty SUM ; or fine SUM ;")
    static void p13fault_feeBountyFineWantTheirParts() {
        for (String kind : new String[] {"fee ", "bounty ", "fine "}) {
            int n = kind.length();
            sound(kind + "1;");
            faulty(kind + ";", 1, n);
            faulty(kind + "1=1;", 1, n + 1);
            faulty(kind + "not 1=1;", 1, n);
            faulty(kind + "1", 1, n + 1);
            faulty(kind, 1, n);
        }
    }

    private static void toldNumber(String kind, int least, int most) {
        int n = kind.length() + 1;
        sound(kind + " " + least + ";");
        sound(kind + " " + most + ";");
        faulty(kind + " " + (most + 1) + ";", 2, n);
        if (least > 0) {
            faulty(kind + " " + (least - 1) + ";", 2, n);
        }
        faulty(kind + " -1;", 1, n);
        faulty(kind + " 10000;", 2, n);
        faulty(kind + ";", 1, n - 1);
        faulty(kind + " width;", 1, n);
        faulty(kind + " " + most, 1, n + Integer.toString(most).length());
        faulty(kind + " 1+1;", 1, n + 1);
        faulty(kind + " (1);", 1, n);
    }

    @Edges.Says({"or shrink NUMBER ; (0 .. 20)", "2 a NUMBER that isn't one of those told."})
    static void p13fault_shrinkIs0To20() {
        toldNumber("shrink", 0, 20);
    }

    @Edges.Says({"or yield NUMBER ; (1 .. 99)", "2 a NUMBER that isn't one of those told."})
    static void p13fault_yieldIs1To99() {
        toldNumber("yield", 1, 99);
    }

    @Edges.Says({"or hank NUMBER ; (1 .. 500)", "2 a NUMBER that isn't one of those told."})
    static void p13fault_hankIs1To500() {
        toldNumber("hank", 1, 500);
    }

    @Edges.Says({"or level NUMBER ; (0 .. 100).", "2 a NUMBER that isn't one of those told."})
    static void p13fault_levelIs0To100() {
        toldNumber("level", 0, 100);
    }

    @Edges.Says({"1 it can't stand there, or is none.", "{CLAUSE}, 20 at most:"})
    static void p13fault_otherTokensBeginNoClause() {
        for (String token : new String[] {"width", "and", "or", "not", "min", "max", "town", "day", "x", "1", "(", ";",
            ",", "-", "<=", "?"}) {
            faulty(token, 1, 0);
            faulty("fee 1;" + token, 1, 6);
        }
    }

    // ---- promise 13: grammar

    @Edges.Says("EITHER: BOTH {or BOTH}.")
    static void p13fault_orWantsBothSides() {
        sound("seal 1=1 or 1=1 or 1=1;");
        asks("1=2 or ".repeat(30) + "1=1", true);
        asks("1=2 or ".repeat(30) + "1=2", false);
        faulty("seal or 1=1;", 1, 5);
        faulty("seal 1=1 or;", 1, 11);
        faulty("seal 1=1 or or 1=1;", 1, 12);
        faulty("seal 1 or 1=1;", 1, 7);
        faulty("fee 1 or 1;", 1, 6);
    }

    @Edges.Says("BOTH: ASK {and ASK}.")
    static void p13fault_andWantsBothSides() {
        sound("seal 1=1 and 1=1 and 1=1;");
        asks("1=1 and ".repeat(30) + "1=1", true);
        asks("1=1 and ".repeat(30) + "1=2", false);
        faulty("seal and 1=1;", 1, 5);
        faulty("seal 1=1 and;", 1, 12);
        faulty("seal 1=1 and and 1=1;", 1, 13);
        faulty("seal 1 and 1=1;", 1, 7);
        faulty("fee 1 and 1;", 1, 6);
    }

    @Edges.Says("ASK: not ASK, or SUM one of < <= > >= = # (unlike) SUM.")
    static void p13fault_anAskHasOneSign() {
        faulty("seal 1=2=3;", 1, 8);
        faulty("seal 1<2<3;", 1, 8);
        faulty("seal 1+2;", 1, 8);
        faulty("seal =1;", 1, 5);
        faulty("seal (1=2);", 1, 7);
    }

    @Edges.Says("ASK: not ASK, or SUM one of < <= > >= = # (unlike) SUM.")
    static void p13fault_notStandsAheadOfAnAskAlone() {
        sound("seal not not 1=1 and not 1=1 or not 1=1;");
        faulty("seal not;", 1, 8);
        faulty("seal 1 not 1=1;", 1, 7);
        faulty("seal 1=not 1;", 1, 7);
        faulty("seal 1=1 not 1=1;", 1, 9);
        faulty("seal (not 1=1);", 1, 6);
        faulty("seal -not 1=1;", 1, 6);
    }

    @Edges.Says("SUM: PRODUCT {+ or - PRODUCT}.")
    static void p13fault_plusAndMinusWantBothSides() {
        sound("fee 1+2-3+4;");
        faulty("fee +1;", 1, 4);
        faulty("fee 1+;", 1, 6);
        faulty("fee 1-;", 1, 6);
        faulty("fee 1++1;", 1, 6);
        faulty("fee 1+*1;", 1, 6);
    }

    @Edges.Says("PRODUCT: ONE {* or / ONE}.")
    static void p13fault_timesAndOverWantBothSides() {
        sound("fee 1*2/3*4;");
        value("1*".repeat(60) + "7", 7);
        faulty("fee *1;", 1, 4);
        faulty("fee /1;", 1, 4);
        faulty("fee 1*;", 1, 6);
        faulty("fee 1/;", 1, 6);
        faulty("fee 1*/1;", 1, 6);
    }

    @Edges.Says("ONE: NUMBER, NAME, ( SUM ), - ONE, min ( SUM , SUM ), max likewise.")
    static void p13fault_bracketsAreShut() {
        sound("fee (1);");
        sound("fee (1+(2*3));");
        faulty("fee ();", 1, 5);
        faulty("fee (1;", 1, 6);
        faulty("fee 1);", 1, 5);
        faulty("fee (1));", 1, 7);
        faulty("fee (1,2);", 1, 6);
        faulty("fee (1<2);", 1, 6);
        faulty("fee (1", 1, 6);
        faulty("fee 1(2);", 1, 5);
    }

    @Edges.Says("ONE: NUMBER, NAME, ( SUM ), - ONE, min ( SUM , SUM ), max likewise.")
    static void p13fault_minusStandsAheadOfAOne() {
        sound("fee -1;");
        sound("fee --width*-(1)/-min(1,-2);");
        sound("seal -1<-2;");
        faulty("fee -;", 1, 5);
        faulty("fee -+1;", 1, 5);
    }

    @Edges.Says("ONE: NUMBER, NAME, ( SUM ), - ONE, min ( SUM , SUM ), max likewise.")
    static void p13fault_minAndMaxHaveTwoSums() {
        for (String two : new String[] {"min", "max"}) {
            sound("fee " + two + "(1+2,3*4);");
            faulty("fee " + two + ";", 1, 7);
            faulty("fee " + two + " 1,2;", 1, 8);
            faulty("fee " + two + "();", 1, 8);
            faulty("fee " + two + "(1);", 1, 9);
            faulty("fee " + two + "(1,);", 1, 10);
            faulty("fee " + two + "(1,2;", 1, 11);
            faulty("fee " + two + "(1,2,3);", 1, 11);
            faulty("fee " + two + "(1<2,3);", 1, 9);
        }
    }

    @Edges.Says("NAMES: width count length weeks town sort day")
    static void p13fault_otherWordsAreNoNames() {
        sound("fee width+count+length+weeks+town+sort+day;");
        for (String word : new String[] {"seal", "prize", "fee", "bounty", "fine", "shrink", "yield", "hank", "level",
            "and", "or", "not", "inch", "kin", "w"}) {
            faulty("fee " + word + ";", 1, 4);
            faulty("fee 1+" + word + ";", 1, 6);
        }
    }

    // ---- promise 13: which fault, and where

    @Edges.Says("FAULTS, the first as TOKENS are come to,")
    static void p13fault_theFirstOfTwoIsTold() {
        faulty("fee 10000;fee );", 2, 4);
        faulty("fee );fee 10000;", 1, 4);
        faulty("fee 1;fee 10000;", 4, 6);
        faulty("shrink 21;\t", 2, 7);
        faulty("fee 1;fee 1;?", 4, 6);
    }

    @Edges.Says("at the TOKEN's first byte (of the end at the length),")
    static void p13fault_atTheTokensFirstByte() {
        faulty("  widths", 1, 2);
        faulty("fee  12345;", 2, 5);
        faulty("seal 1 <=>= 2;", 1, 9);
        faulty("fee 1;\n\n fee 2;", 4, 9);
    }

    @Edges.Says("at the TOKEN's first byte (of the end at the length),")
    static void p13fault_ofTheEndAtTheLength() {
        faulty("fee", 1, 3);
        faulty("fee 1", 1, 5);
        faulty("fee 1  \n", 1, 8);
        faulty("fee 1;seal 1=1 ", 1, 15);
        faulty("fee min(1,2", 1, 11);
    }

    @Edges.Says({"of one the least:", "2 a NUMBER that isn't one of those told."})
    static void p13fault_aNumberThatCantStandThereIsFault1() {
        faulty("fee 1 10000;", 1, 6);
        faulty("10000", 1, 0);
        faulty("seal 1=1 10000;", 1, 9);
        faulty("fee min 10000;", 1, 8);
        faulty("fee 1;10000", 1, 6);
    }

    @Edges.Says({"of one the least:", "3 the 9th of ( not and - (of one ONE) that are open around one another"})
    static void p13fault_the9thThatCantStandThereIsFault1() {
        faulty("fee " + "(".repeat(8) + "1(", 1, 13);
        faulty("fee " + "(".repeat(8) + "not", 1, 12);
        faulty("fee " + "-".repeat(8) + "not", 1, 12);
        faulty("fee " + "(".repeat(8) + "min-1", 1, 15);
    }

    @Edges.Says({"of one the least:", "4 fee, bounty, fine, shrink, yield, hank, level for the second time (at it)."})
    static void p13fault_the21stClauseForTheSecondTimeIsFault4() {
        faulty("fee 1;" + "seal 1=1;".repeat(19) + "fee 1;", 4, 177);
        faulty("fee 1;" + "seal 1=1;".repeat(19) + "bounty 1;", 5, 177);
    }

    @Edges.Says({"of one the least:", "5 the 21st CLAUSE (at its first TOKEN)."})
    static void p13fault_noClauseBehind20IsFault1() {
        faulty("seal 1=1;".repeat(20) + "x", 1, 180);
        faulty("seal 1=1;".repeat(20) + ";", 1, 180);
        faulty("seal 1=1;".repeat(20) + "10000", 1, 180);
        faulty("seal 1=1;".repeat(20) + "?", 1, 180);
    }

    // ---- promise 13: depth

    private static final String DEEP = "3 the 9th of ( not and - (of one ONE) that are open around one another";
    private static final String DEEP_AT = "(at it; min and max at their ( ).";

    @Edges.Says({DEEP, DEEP_AT})
    static void p13fault_the9thBracket() {
        sound("fee " + "(".repeat(8) + "1" + ")".repeat(8) + ";");
        faulty("fee " + "(".repeat(9) + "1" + ")".repeat(9) + ";", 3, 12);
        faulty("fee " + "( ".repeat(9), 3, 20);
    }

    @Edges.Says({DEEP, DEEP_AT})
    static void p13fault_the9thNot() {
        sound("seal " + "not ".repeat(8) + "1=1;");
        faulty("seal " + "not ".repeat(9) + "1=1;", 3, 37);
        sound("prize " + "not ".repeat(8) + "1=1;");
        faulty("prize " + "not ".repeat(9) + "1=1;", 3, 38);
        sound("sort 1 " + "not ".repeat(8) + "1=1;");
        faulty("sort 1 " + "not ".repeat(9) + "1=1;", 3, 39);
    }

    @Edges.Says({DEEP, DEEP_AT})
    static void p13fault_the9thMinus() {
        sound("fee " + "-".repeat(8) + "1;");
        faulty("fee " + "-".repeat(9) + "1;", 3, 12);
    }

    @Edges.Says({DEEP, DEEP_AT})
    static void p13fault_the9thIsToldAtTheBracketOfMinAndMax() {
        for (String two : new String[] {"min", "max"}) {
            sound("fee " + (two + "(").repeat(8) + "1" + ",1)".repeat(8) + ";");
            faulty("fee " + (two + "(").repeat(9) + "1" + ",1)".repeat(9) + ";", 3, 39);
            sound("fee " + (two + "(1,").repeat(8) + "1" + ")".repeat(8) + ";");
            faulty("fee " + (two + "(1,").repeat(9) + "1" + ")".repeat(9) + ";", 3, 55);
            faulty("fee " + "-".repeat(8) + two + " (1,1);", 3, 16);
        }
    }

    @Edges.Says(DEEP)
    static void p13fault_allOfThemCountTogether() {
        sound("seal not not -(-min(1,-(1)))=1;");
        faulty("seal not not not -(-min(1,-((1))))=1;", 3, 27);
        faulty("seal not ((((((((1))))))))=1;", 3, 16);
        sound("seal not (((((((1)))))))=1;");
        faulty("fee -(-(-(-(-(1)))));", 3, 12);
        sound("fee -(-(-(-(1))));");
    }

    @Edges.Says(DEEP)
    static void p13fault_notIsOpenToTheEndOfItsAsk() {
        faulty("seal " + "not ".repeat(8) + "-1=1;", 3, 37);
        faulty("seal " + "not ".repeat(8) + "1=-1;", 3, 39);
        faulty("seal " + "not ".repeat(8) + "1=1+(1);", 3, 41);
        sound("seal " + "not ".repeat(8) + "1=1 and -1=1;");
        sound("seal " + "not ".repeat(8) + "1=1 or not (((((((1)))))))=1;");
        sound("seal " + "not ".repeat(8) + "1=1;fee -1;");
    }

    @Edges.Says(DEEP)
    static void p13fault_minusIsOpenToTheEndOfItsOne() {
        sound("fee " + "-".repeat(8) + "1+-1;");
        sound("fee " + "-".repeat(8) + "1*-1;");
        sound("fee " + "-".repeat(7) + "(1)-(1);");
        faulty("fee " + "-".repeat(8) + "(1);", 3, 12);
    }

    @Edges.Says(DEEP)
    static void p13fault_aMinusBetweenTwoIsNotCounted() {
        sound("fee " + "1-".repeat(30) + "1;");
        sound("fee 1-" + "-".repeat(8) + "1;");
        faulty("fee 1-" + "-".repeat(9) + "1;", 3, 14);
        sound("fee ((((((((1-1-1))))))));");
    }

    @Edges.Says(DEEP)
    static void p13fault_behindAProductOrASumAsWell() {
        sound("fee 1*1*1*((((((((1))))))));");
        sound("fee 1+1+1+((((((((1))))))));");
        faulty("fee 1*1*1*(((((((((1)))))))));", 3, 18);
        faulty("fee 1+1+1+(((((((((1)))))))));", 3, 18);
        faulty("fee ((((((((1*(1)", 3, 14);
        faulty("fee ((((((((1*1*(1)", 3, 16);
        faulty("fee ((((((((1+(1)", 3, 14);
        faulty("fee ((((((((1+1+(1)", 3, 16);
    }

    @Edges.Says(DEEP)
    static void p13fault_thoseBesideOneAnotherAreNotAround() {
        sound("fee " + "(1)+".repeat(30) + "1;");
        sound("fee " + "-1+".repeat(30) + "1;");
        sound("seal " + "not 1=1 and ".repeat(20) + "1=1;");
        sound("fee max(" + "(".repeat(7) + "1" + ")".repeat(7) + "," + "(".repeat(7) + "1" + ")".repeat(7) + ");");
        faulty("fee max(1," + "(".repeat(8) + "1", 3, 17);
    }

    @Edges.Says(DEEP)
    static void p13fault_eachSideOfAnAskBeginsAnew() {
        sound("seal ((((((((1))))))))=((((((((1))))))));");
        sound("seal 1=1 and ((((((((1))))))))=1;");
        faulty("seal 1=1 and (((((((((1)))))))))=1;", 3, 21);
        sound("seal 1=1 or ((((((((1))))))))=1;");
        faulty("seal 1=1 or (((((((((1)))))))))=1;", 3, 20);
        faulty("seal ((((((((1))))))))=(((((((((1)))))))));", 3, 31);
    }

    // ---- promise 13: twice, and many

    @Edges.Says("4 fee, bounty, fine, shrink, yield, hank, level for the second time (at it).")
    static void p13fault_eachOfSevenForTheSecondTime() {
        for (String kind : new String[] {"fee", "bounty", "fine", "shrink", "yield", "hank", "level"}) {
            String clause = kind + " 1;";
            sound(clause);
            faulty(clause + clause, 4, clause.length());
            faulty(clause + "seal 1=1; " + kind, 4, clause.length() + 10);
        }
    }

    @Edges.Says("4 fee, bounty, fine, shrink, yield, hank, level for the second time (at it).")
    static void p13fault_sortSealAndPrizeMayComeAgain() {
        sound("sort 1 1=1;sort 1 1=1;seal 1=1;seal 1=1;prize 1=1;prize 1=1;");
    }

    @Edges.Says("4 fee, bounty, fine, shrink, yield, hank, level for the second time (at it).")
    static void p13fault_otherTextsDontCount() {
        LinenBoard x = new LinenBoard();
        due("the first text", Edges.act(x, "fee 1;"), 0);
        due("the second text", Edges.act(x, "fee 1;"), 1);
        due("a faulty text", Edges.act(x, "level 1;level"), -1);
        due("the next text", Edges.act(x, "level 1;"), 2);
    }

    @Edges.Says({"5 the 21st CLAUSE (at its first TOKEN).", "{CLAUSE}, 20 at most:"})
    static void p13fault_20ClausesAreTheMost() {
        sound("seal 1=1;".repeat(20));
        faulty("seal 1=1;".repeat(21), 5, 180);
        faulty("seal 1=1;".repeat(20) + " \n fee 1;", 5, 183);
        faulty("seal 1=1;".repeat(20) + "hank 0;", 5, 180);
        faulty("seal 1=1;".repeat(20) + "sort", 5, 180);
    }

    @Edges.Says("{CLAUSE}, 20 at most:")
    static void p13fault_the20thClauseCounts() {
        LinenBoard x = Edges.oneWeb();
        Edges.inForce(x, "seal 1=1;".repeat(19) + "seal 1=2;");
        due("lacks", x.board(0, 0, 0, 5), 19);
    }

    // ---- promise 14

    private static LinenBoard feeActs() {
        LinenBoard x = Edges.oneWeb();
        Edges.act(x, "fee 1;");
        Edges.act(x, "fee 2;bounty 5;");
        Edges.act(x, "");
        return x;
    }

    @Edges.Says("A FORCE: its number.")
    static void p14force_numbersFrom0To29() {
        LinenBoard x = feeActs();
        for (int i = 0; i <= 29; i++) {
            due("force " + i, x.force(0, 0, 0), i);
        }
    }

    @Edges.Says({"or if there are 30.", "FORCE (30 at most):"})
    static void p14force_the31stIsNone() {
        LinenBoard x = feeActs();
        for (int i = 0; i < 30; i++) {
            x.force(0, 0, 0);
        }
        due("the 31st", x.force(1, 0, 0), -1);
        due("about(7)", x.about(7), 30);
        due("the fee stays", x.sum(0, 0, 0, 0), 1);
    }

    @Edges.Says({"NONE for others,", "an ACT from a DAY to one (both; not ahead of the clock's)."})
    static void p14force_fromTheClocksDayOn() {
        LinenBoard x = feeActs();
        x.days(10);
        due("from day 9", x.force(0, 9, 20), -1);
        due("from day 10", x.force(0, 10, 20), 0);
        due("from day 11", x.force(0, 11, 20), 1);
    }

    @Edges.Says("an ACT from a DAY to one (both; not ahead of the clock's).")
    static void p14force_holdsOnBothDays() {
        LinenBoard x = feeActs();
        x.force(0, 3, 5);
        int[] want = {0, 0, 0, 1, 1, 1, 0};
        for (int day = 0; day < want.length; day++) {
            due("fee on day " + day, x.sum(0, day, 0, 0), want[day]);
        }
    }

    @Edges.Says("an ACT from a DAY to one (both; not ahead of the clock's).")
    static void p14force_forOneDay() {
        LinenBoard x = feeActs();
        due("force(0, 4, 4)", x.force(0, 4, 4), 0);
        due("fee on day 3", x.sum(0, 3, 0, 0), 0);
        due("fee on day 4", x.sum(0, 4, 0, 0), 1);
        due("fee on day 5", x.sum(0, 5, 0, 0), 0);
    }

    @Edges.Says("NONE for others,")
    static void p14force_toADayAheadOfTheFirstIsNone() {
        LinenBoard x = feeActs();
        due("force(0, 5, 4)", x.force(0, 5, 4), -1);
        due("force(0, 5, -1)", x.force(0, 5, -1), -1);
        due("force(0, 5, LOW)", x.force(0, 5, LOW), -1);
        due("about(7)", x.about(7), 0);
    }

    @Edges.Says({"NONE for others,", "DAYS 0 .. 999:"})
    static void p14force_to999IsTheLast() {
        LinenBoard x = feeActs();
        due("to 1000", x.force(0, 0, 1000), -1);
        due("to HIGH", x.force(0, 0, HIGH), -1);
        due("from 1000", x.force(0, 1000, 1000), -1);
        due("from -1", x.force(0, -1, 5), -1);
        due("from LOW", x.force(0, LOW, 5), -1);
        due("to 999", x.force(0, 999, 999), 0);
        due("fee on day 999", x.sum(0, 999, 0, 0), 1);
    }

    @Edges.Says("NONE for others,")
    static void p14force_wantsAnActThatIsThere() {
        LinenBoard x = feeActs();
        due("the last act", x.force(2, 0, 0), 0);
        for (int act : new int[] {3, -1, 10, LOW, HIGH}) {
            due("force(" + act + ", 0, 0)", x.force(act, 0, 0), -1);
        }
    }

    @Edges.Says("THE ACT for a sort of CLAUSE on a DAY: of FORCES that hold then,")
    static void p14force_thoseThatDontHoldDontCount() {
        LinenBoard x = feeActs();
        x.force(0, 0, 9);
        x.force(1, 4, 5);
        due("on day 3", x.sum(0, 3, 0, 0), 1);
        due("on day 4", x.sum(0, 4, 0, 0), 2);
        due("on day 5", x.sum(0, 5, 0, 0), 2);
        due("on day 6", x.sum(0, 6, 0, 0), 1);
    }

    @Edges.Says("whose ACT has such a CLAUSE,")
    static void p14force_anActWithoutSuchAClauseDoesntCount() {
        LinenBoard x = feeActs();
        x.force(1, 0, 9);
        x.force(0, 0, 9);
        x.force(2, 0, 9);
        due("the fee is of the latest that has one", x.sum(0, 0, 0, 0), 1);
        due("the bounty of the only one", x.sum(0, 0, 0, 1), 5);
        due("the fine of none", x.sum(0, 0, 0, 2), 0);
    }

    @Edges.Says("the one told latest.")
    static void p14force_theOneToldLatest() {
        LinenBoard x = feeActs();
        x.force(1, 5, 9);
        x.force(0, 0, 9);
        due("not the one from the latest day", x.sum(0, 5, 0, 0), 1);
        x.force(1, 0, 9);
        due("told anew", x.sum(0, 5, 0, 0), 2);
    }

    @Edges.Says("whose ACT has such a CLAUSE,")
    static void p14force_sealsAndSortsAreOfOneActEach() {
        LinenBoard x = Edges.oneWeb();
        Edges.inForce(x, "sort 1 1=1;seal 1=2;");
        Edges.inForce(x, "sort 2 1=2;");
        due("the sort is of the latest, though none is so", x.board(0, 0, 0, 4), -1);
        due("what it lacks is of the first", x.board(0, 0, 0, 5), 1);
    }

    @Edges.Says("an ACT from a DAY to one (both; not ahead of the clock's).")
    static void p14force_onTheLastDay() {
        LinenBoard x = feeActs();
        for (int i = 0; i < 4; i++) {
            x.days(200);
        }
        x.days(199);
        due("force(0, 998, 999)", x.force(0, 998, 999), -1);
        due("force(0, 999, 999)", x.force(0, 999, 999), 0);
    }

    // ---- promise 15

    @Edges.Says({"FEE (0), BOUNTY (1), FINE (2) of a WEB on a DAY as KNOWN.", "FEE, BOUNTY, FINE: 0 at least; without 0,"})
    static void p15sum_withoutAnActIs0() {
        LinenBoard x = Edges.oneWeb();
        for (int what = 0; what <= 2; what++) {
            due("sum(0, 0, 0, " + what + ")", x.sum(0, 0, 0, what), 0);
        }
    }

    @Edges.Says("FEE (0), BOUNTY (1), FINE (2) of a WEB on a DAY as KNOWN.")
    static void p15sum_eachIsItsOwn() {
        LinenBoard x = Edges.oneWeb();
        Edges.inForce(x, "fine 3;fee 1;bounty 2;");
        due("fee", x.sum(0, 0, 0, 0), 1);
        due("bounty", x.sum(0, 0, 0, 1), 2);
        due("fine", x.sum(0, 0, 0, 2), 3);
    }

    @Edges.Says("FEE, BOUNTY, FINE: 0 at least;")
    static void p15sum_is0AtLeast() {
        LinenBoard x = Edges.oneWeb();
        Edges.inForce(x, "fee -1;bounty 5-6;fine 0-9999*9999*9999;");
        for (int what = 0; what <= 2; what++) {
            due("sum(0, 0, 0, " + what + ")", x.sum(0, 0, 0, what), 0);
        }
    }

    @Edges.Says("FEE, BOUNTY, FINE: 0 at least;")
    static void p15sum_is1000000000AtMost() {
        LinenBoard x = Edges.oneWeb();
        Edges.inForce(x, "fee 9999*9999*9999;bounty 1000*1000*1000;fine 1000*1000*1000-1;");
        due("fee", x.sum(0, 0, 0, 0), 1000000000);
        due("bounty", x.sum(0, 0, 0, 1), 1000000000);
        due("fine", x.sum(0, 0, 0, 2), 999999999);
    }

    @Edges.Says("of a WEB on a DAY as KNOWN.")
    static void p15sum_ofTheMeasuresOnThatDayAsKnown() {
        LinenBoard x = Edges.oneWeb();
        Edges.inForce(x, "fee width;");
        x.days(5);
        x.measure(0, 3, 30, 1, 1, 0);
        due("on day 2", x.sum(0, 2, 5, 0), 100);
        due("on day 3", x.sum(0, 3, 5, 0), 30);
        due("on day 3 as known on day 4", x.sum(0, 3, 4, 0), 100);
    }

    @Edges.Says("NONE for others, and without MEASURES.")
    static void p15sum_withoutMeasuresIsNone() {
        LinenBoard x = Edges.onePerson();
        x.web(0);
        x.days(1);
        x.measure(0, 5, 1, 1, 1, 0);
        Edges.inForce(x, "fee 1;");
        due("on day 4", x.sum(0, 4, 1, 0), -1);
        due("on day 5 as known on day 0", x.sum(0, 5, 0, 0), -1);
        due("on day 5", x.sum(0, 5, 1, 0), 1);
    }

    @Edges.Says("NONE for others, and without MEASURES.")
    static void p15sum_wantsAWebThatIsThere() {
        LinenBoard x = Edges.oneWeb();
        for (int web : new int[] {1, -1, 50, LOW, HIGH}) {
            due("sum(" + web + ", 0, 0, 0)", x.sum(web, 0, 0, 0), -1);
        }
    }

    @Edges.Says({"NONE for others, and without MEASURES.", "DAYS 0 .. 999:"})
    static void p15sum_daysMinus1And1000AreOthers() {
        LinenBoard x = Edges.oneWeb();
        due("day 999", x.sum(0, 999, 0, 0), 0);
        due("as known on day 999", x.sum(0, 0, 999, 0), 0);
        for (int day : new int[] {-1, 1000, LOW, HIGH}) {
            due("day " + day, x.sum(0, day, 0, 0), -1);
            due("as known on day " + day, x.sum(0, 0, day, 0), -1);
        }
    }

    @Edges.Says("NONE for others, and without MEASURES.")
    static void p15sum_otherQuestionsAreNone() {
        LinenBoard x = Edges.oneWeb();
        for (int what : new int[] {-1, 3, LOW, HIGH}) {
            due("sum(0, 0, 0, " + what + ")", x.sum(0, 0, 0, what), -1);
        }
    }

    // ---- promise 15: names

    @Edges.Says("NAMES: width count length weeks town sort day (of a WEB: by THE BOARD, its WEAVER's TOWN,")
    static void p15sum_namesAreByTheBoard() {
        LinenBoard x = new LinenBoard();
        x.town(80);
        x.town(120);
        x.person(1, 0);
        x.web(0);
        x.measure(0, 0, 100, 60, 7, 3);
        // 120, less 12, less 10, less 9
        Edges.inForce(x, "shrink 10;fee width;bounty count;fine length;");
        due("width", x.sum(0, 0, 0, 0), 89);
        due("count", x.sum(0, 0, 0, 1), 50);
        due("length", x.sum(0, 0, 0, 2), 7);
        Edges.inForce(x, "fee weeks;bounty town;fine day;");
        due("weeks", x.sum(0, 8, 0, 0), 3);
        due("town", x.sum(0, 8, 0, 1), 1);
        due("day", x.sum(0, 8, 0, 2), 8);
    }

    @Edges.Says("the DAY;")
    static void p15sum_dayIsTheOneAskedFor() {
        LinenBoard x = Edges.oneWeb();
        Edges.inForce(x, "fee day;");
        x.days(5);
        due("on day 0", x.sum(0, 0, 5, 0), 0);
        due("on day 999", x.sum(0, 999, 5, 0), 999);
    }

    @Edges.Says("its SORT (NONE is 10; in sort and prize 0),")
    static void p15sum_sortOfNoneIs10() {
        LinenBoard x = Edges.oneWeb();
        Edges.inForce(x, "fee sort;seal sort=10;sort 3 1=2;");
        due("fee", x.sum(0, 0, 0, 0), 10);
        due("lacks", x.board(0, 0, 0, 5), -1);
    }

    @Edges.Says("its SORT (NONE is 10; in sort and prize 0),")
    static void p15sum_sortOfNoneWithoutAnActIs10() {
        LinenBoard x = Edges.oneWeb();
        Edges.inForce(x, "fee sort;");
        due("fee", x.sum(0, 0, 0, 0), 10);
    }

    @Edges.Says("its SORT (NONE is 10; in sort and prize 0),")
    static void p15sum_sortIsTheWebs() {
        LinenBoard x = Edges.oneWeb();
        Edges.inForce(x, "fee sort;seal sort=9;sort 9 1=1;");
        due("fee", x.sum(0, 0, 0, 0), 9);
        due("lacks", x.board(0, 0, 0, 5), -1);
        Edges.inForce(x, "sort 0 1=1;");
        due("fee of sort 0", x.sum(0, 0, 0, 0), 0);
    }

    @Edges.Says("its SORT (NONE is 10; in sort and prize 0),")
    static void p15sum_inSortItIs0() {
        LinenBoard x = Edges.oneWeb();
        Edges.inForce(x, "sort 4 sort=10;sort 5 sort=4;sort 6 sort=0;");
        due("sort", x.board(0, 0, 0, 4), 6);
        due("and again", x.board(0, 0, 0, 4), 6);
    }

    // ---- promise 15: values

    @Edges.Says("From the left;")
    static void p15sum_fromTheLeft() {
        value("10-3-4", 3);
        value("100/7/3", 4);
        value("100/7*3", 42);
        value("2*3/4*5", 5);
        value("10-3+4", 11);
        value("1-2*3-4", -9);
    }

    @Edges.Says({"SUM: PRODUCT {+ or - PRODUCT}.", "PRODUCT: ONE {* or / ONE}."})
    static void p15sum_productsAheadOfSums() {
        value("1+2*3", 7);
        value("2*3+1", 7);
        value("9-8/2", 5);
        value("(1+2)*3", 9);
        value("-2*3", -6);
        value("-2+3", 1);
        value("-(2+3)", -5);
        value("2*-3", -6);
    }

    @Edges.Says("/ cuts towards 0,")
    static void p15sum_overCutsTowards0() {
        value("7/2", 3);
        value("-7/2", -3);
        value("7/-2", -3);
        value("-7/-2", 3);
        value("1/2", 0);
        value("-1/2", 0);
        value("0/7", 0);
    }

    @Edges.Says("by 0 it is 0;")
    static void p15sum_over0Is0() {
        value("5/0", 0);
        value("-5/0", 0);
        value("0/0", 0);
        value("7+5/(3-3)", 7);
        value("5/weeks", 0);
    }

    @Edges.Says("what is above 1000000000 (below the same less) is that, at each step.")
    static void p15sum_above1000000000IsThat() {
        value("1000*1000*1000", 1000000000);
        value("1000*1000*1000+1", 1000000000);
        value("1000*1000*1000+1-1", 999999999);
        value("1000*1000*1001", 1000000000);
        value("1000*1000*1000-1+1", 1000000000);
        value("9999*9999*9999*9999", 1000000000);
        value("9999*9999*9999/9999", 100010);
    }

    @Edges.Says("what is above 1000000000 (below the same less) is that, at each step.")
    static void p15sum_belowMinus1000000000IsThat() {
        value("-1000*1000*1000", -1000000000);
        value("-1000*1000*1000-1", -1000000000);
        value("-1000*1000*1000-1+1", -999999999);
        value("1000*1000*-1001", -1000000000);
        value("-1000*1000*1000+1-1", -1000000000);
        value("-9999*9999*9999*9999*9999", -1000000000);
    }

    @Edges.Says("what is above 1000000000 (below the same less) is that, at each step.")
    static void p15sum_limitsHoldInBracketsAndAsks() {
        value("(9999*9999*9999)*(9999*9999*9999)-1", 999999999);
        value("-(9999*9999*9999)-9999*9999*9999+1", -999999999);
        value("min(9999*9999*9999,2)+max(-9999*9999*9999,-3)", -1);
        asks("1000*1000*1000+1=1000*1000*1000", true);
        asks("1000*1000*1000+1>1000*1000*1000", false);
        asks("-1000*1000*1000-1=-1000*1000*1000", true);
    }

    @Edges.Says("From the left;")
    static void p15sum_asDeepAsATextMayGo() {
        value("1+1*(".repeat(7) + "1" + ")".repeat(7), 8);
        value("1+1*max(0,".repeat(7) + "1" + ")".repeat(7), 8);
        asks("1=2 or 1=1 and 1+1*max(0," + "1+1*max(0,".repeat(7) + "1" + ")".repeat(8) + "=9", true);
        asks("1=1 and 9=1+1*max(0," + "1+1*max(0,".repeat(7) + "1" + ")".repeat(8), true);
        asks("not ".repeat(8) + "2*3+4=10", true);
    }

    @Edges.Says("min ( SUM , SUM ), max likewise.")
    static void p15sum_minAndMax() {
        value("min(2,3)", 2);
        value("min(3,2)", 2);
        value("max(2,3)", 3);
        value("max(3,2)", 3);
        value("min(-3,-2)", -3);
        value("max(-3,-2)", -2);
        value("min(4,4)+max(5,5)", 9);
        value("-min(1+1,3)*max(2*2,1)", -8);
    }

    @Edges.Says("ASK: not ASK, or SUM one of < <= > >= = # (unlike) SUM.")
    static void p15sum_asksBelowAtAndAbove() {
        boolean[][] want = {{true, false, false}, {true, true, false}, {false, false, true}, {false, true, true},
            {false, true, false}, {true, false, true}};
        String[] signs = {"<", "<=", ">", ">=", "=", "#"};
        for (int sign = 0; sign < signs.length; sign++) {
            for (int left = 4; left <= 6; left++) {
                asks(left + signs[sign] + "5", want[sign][left - 4]);
                asks("not " + left + signs[sign] + "5", !want[sign][left - 4]);
                asks("1=1 and " + left + signs[sign] + "5", want[sign][left - 4]);
                asks(left + signs[sign] + "5 or 1=2", want[sign][left - 4]);
            }
        }
    }

    @Edges.Says("ASK: not ASK, or SUM one of < <= > >= = # (unlike) SUM.")
    static void p15sum_notTurnsItsAskAlone() {
        asks("not 1=1", false);
        asks("not 1=2", true);
        asks("not not 1=2", false);
        asks("not 1=2 and 1=2", false);
        asks("not 1=1 or 1=1", true);
    }

    @Edges.Says({"EITHER: BOTH {or BOTH}.", "BOTH: ASK {and ASK}.", "or and and look at both sides always."})
    static void p15sum_orAndAndLookAtBothSides() {
        asks("1=1 or 1=1", true);
        asks("1=1 or 1=2", true);
        asks("1=2 or 1=1", true);
        asks("1=2 or 1=2", false);
        asks("1=1 and 1=1", true);
        asks("1=1 and 1=2", false);
        asks("1=2 and 1=1", false);
        asks("1=2 and 1=2", false);
    }

    @Edges.Says({"EITHER: BOTH {or BOTH}.", "BOTH: ASK {and ASK}."})
    static void p15sum_andGoesAheadOfOr() {
        asks("1=1 or 1=1 and 1=2", true);
        asks("1=2 and 1=2 or 1=1", true);
        asks("1=2 and 1=1 or 1=2", false);
        asks("1=1 or 1=2 and 1=2 or 1=2", true);
        asks("1=2 or 1=1 and 1=2 or 1=2", false);
    }

    // ---- promise 16

    @Edges.Says({"Of a DAY: 0 SHRINK, 1 YIELD, 2 HANK, 3 LEVEL.", "SHRINK 0, YIELD 10, HANK 100, LEVEL 5."})
    static void p16says_withoutAnAct() {
        LinenBoard x = new LinenBoard();
        int[] want = {0, 10, 100, 5};
        for (int what = 0; what <= 3; what++) {
            due("says(0, " + what + ")", x.says(0, what), want[what]);
            due("says(999, " + what + ")", x.says(999, what), want[what]);
        }
    }

    @Edges.Says("Of a DAY: 0 SHRINK, 1 YIELD, 2 HANK, 3 LEVEL.")
    static void p16says_theLeast() {
        LinenBoard x = new LinenBoard();
        Edges.inForce(x, "level 0;hank 1;yield 1;shrink 0;");
        int[] want = {0, 1, 1, 0};
        for (int what = 0; what <= 3; what++) {
            due("says(0, " + what + ")", x.says(0, what), want[what]);
        }
    }

    @Edges.Says("Of a DAY: 0 SHRINK, 1 YIELD, 2 HANK, 3 LEVEL.")
    static void p16says_theMost() {
        LinenBoard x = new LinenBoard();
        Edges.inForce(x, "hank 500;level 100;shrink 20;yield 99;");
        int[] want = {20, 99, 500, 100};
        for (int what = 0; what <= 3; what++) {
            due("says(0, " + what + ")", x.says(0, what), want[what]);
        }
    }

    @Edges.Says("Of a DAY: 0 SHRINK, 1 YIELD, 2 HANK, 3 LEVEL.")
    static void p16says_ofEachDayByItself() {
        LinenBoard x = new LinenBoard();
        x.force(Edges.act(x, "level 7;"), 2, 3);
        int[] want = {5, 5, 7, 7, 5};
        for (int day = 0; day < want.length; day++) {
            due("says(" + day + ", 3)", x.says(day, 3), want[day]);
        }
    }

    @Edges.Says({"NONE for others.", "DAYS 0 .. 999:"})
    static void p16says_daysMinus1And1000AreNone() {
        LinenBoard x = new LinenBoard();
        for (int day : new int[] {-1, 1000, LOW, HIGH}) {
            due("says(" + day + ", 1)", x.says(day, 1), -1);
        }
    }

    @Edges.Says("NONE for others.")
    static void p16says_otherQuestionsAreNone() {
        LinenBoard x = new LinenBoard();
        for (int what : new int[] {-1, 4, LOW, HIGH}) {
            due("says(0, " + what + ")", x.says(0, what), -1);
        }
    }

    public static void main(String[] args) {
        Edges.run(ActEdgesTest.class);
    }
}
