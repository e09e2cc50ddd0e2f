/** Promises 7 to 9: THE TAPE, TEXTS and their FAULTS, THE RULE. */
public final class TextsTest extends Checks {
    private static final String REST = ";bell 1;worth 1;";

    public static void main(String[] args) {
        run(TextsTest.class, 7, 9);
    }

    /** What a TEXT alone answers: 1, or -100 less the place of its FAULT. */
    private static void reads(String text, int want) {
        BothHandsFull x = new BothHandsFull();
        due("[" + text + "]", text(x, text), want);
        due("[" + text + "]: how many TEXTS", x.count(4), want > 0 ? 2 : 1);
        due("[" + text + "]: bytes then", x.count(5), 0);
    }

    /** The E alone, behind "costs "; its places count from its own beginning. */
    private static void readsE(String e, int fault) {
        reads("costs " + e + REST, fault == NONE ? 1 : NO_SUCH - 6 - fault);
    }

    // ---- 7 feed

    static void promise7_howManyItHas() {
        BothHandsFull x = new BothHandsFull();
        due("the first", x.feed(65), 1);
        due("the second", x.feed(65), 2);
        due("count", x.count(5), 2);
    }

    static void promise7_theLeastAndTheGreatestByte() {
        BothHandsFull x = new BothHandsFull();
        due("0", x.feed(0), 1);
        due("255", x.feed(255), 2);
    }

    static void promise7_badBelow0() {
        refused(new BothHandsFull(), "-1", BAD, x -> x.feed(-1));
        refused(new BothHandsFull(), "far below", BAD, x -> x.feed(LEAST_INT));
    }

    static void promise7_badAbove255() {
        refused(new BothHandsFull(), "256", BAD, x -> x.feed(256));
        refused(new BothHandsFull(), "far above", BAD, x -> x.feed(MOST_INT));
    }

    static void promise7_160BytesAtMostThenFull() {
        BothHandsFull x = new BothHandsFull();
        for (int i = 1; i <= 160; i++) {
            due("byte " + i, x.feed(32), i);
        }
        refused(x, "byte 161", FULL, y -> y.feed(32));
        due("bytes", x.count(5), 160);
    }

    static void promise7_badAheadOfFull() {
        BothHandsFull x = new BothHandsFull();
        feed(x, " ".repeat(160));
        refused(x, "256", BAD, y -> y.feed(256));
        refused(x, "-1", BAD, y -> y.feed(-1));
    }

    static void promise7_emptyAgainBehindAText() {
        BothHandsFull x = new BothHandsFull();
        text(x, " ".repeat(160));
        due("the first byte then", x.feed(32), 1);
    }

    // ---- 8 text

    static void promise8_textsAreNumberedFrom1() {
        BothHandsFull x = new BothHandsFull();
        for (int n = 1; n < 6; n++) {
            due("text", text(x, "costs 1" + REST), n);
            due("how many", x.count(4), n + 1);
        }
    }

    static void promise8_sixAtMostThenFull() {
        BothHandsFull x = new BothHandsFull();
        for (int n = 1; n < 6; n++) {
            text(x, "costs 1" + REST);
        }
        feed(x, "costs 1" + REST);
        refused(x, "the seventh", FULL, BothHandsFull::text);
        due("TEXTS", x.count(4), 6);
    }

    static void promise8_theTapeStaysWhenFull() {
        BothHandsFull x = new BothHandsFull();
        for (int n = 1; n < 6; n++) {
            text(x, "costs 1" + REST);
        }
        feed(x, "abc");
        x.text();
        due("bytes", x.count(5), 3);
        due("the next byte", x.feed(32), 4);
    }

    static void promise8_fullAheadOfAll() {
        BothHandsFull x = new BothHandsFull();
        for (int n = 1; n < 6; n++) {
            text(x, "costs 1" + REST);
        }
        refused(x, "empty", FULL, BothHandsFull::text);
        feed(x, "@");
        refused(x, "with a FAULT", FULL, BothHandsFull::text);
    }

    static void promise8_theTapeIsEmptyThen() {
        BothHandsFull x = new BothHandsFull();
        due("text", text(x, "costs 1" + REST), 1);
        due("bytes", x.count(5), 0);
        due("nothing of it is read again", x.text(), NO_SUCH);
    }

    static void promise8_emptyByAFaultToo() {
        BothHandsFull x = new BothHandsFull();
        due("text", text(x, "costs @"), NO_SUCH - 6);
        due("bytes", x.count(5), 0);
        due("the next is read from its own beginning", text(x, "costs 1" + REST), 1);
    }

    static void promise8_aFaultMakesNoText() {
        BothHandsFull x = new BothHandsFull();
        text(x, "costs 7;bell 8;worth 9");
        due("TEXTS", x.count(4), 1);
        due("it can't be THE RULE", x.force(1), BAD);
        due("THE RULE", x.count(6), 0);
        due("the next has its number", text(x, "costs 1;bell 2;worth 3;"), 1);
        x.force(1);
        due("and is itself", x.asks(1, 0, 0), 2);
    }

    static void promise8_aFaultLeavesOtherTextsAsTheyAre() {
        BothHandsFull x = new BothHandsFull();
        rule(x, "costs 7;bell 8;worth 9;");
        text(x, "costs 1;bell 2;worth 3");
        due("bell", x.asks(1, 0, 0), 8);
        x.force(0);
        due("bell of TEXT 0", x.asks(1, 0, 0), 20);
    }

    static void promise8_faultsTakeNoRoomFromTheNextText() {
        BothHandsFull x = new BothHandsFull();
        for (int i = 0; i < 2; i++) {
            due("a long one", text(x, "costs 1" + "+1".repeat(70)), -247);
        }
        due("the next", text(x, "costs 2" + "+2".repeat(20) + ";bell 3;worth 4;"), 1);
        x.force(1);
        x.hold(HOLD, 0);
        x.thing(10, 0);
        due("costs", x.asks(0, 0, 0), 42);
        due("bell", x.asks(1, 0, 0), 3);
        due("worth", x.asks(2, 0, 0), 4);
    }

    static void promise8_nothingIsAFaultAt0() {
        reads("", NO_SUCH);
    }

    static void promise8_blanksAloneEndTooEarly() {
        reads(" ", -101);
        reads("\n  \n", -104);
        reads(" ".repeat(160), -260);
    }

    static void promise8_160BytesAreRead() {
        String text = "costs 1" + REST;
        reads(text + " ".repeat(160 - text.length()), 1);
        reads(" ".repeat(160 - text.length()) + text, 1);
        reads(text + " ".repeat(159 - text.length()) + "x", -259);
        reads("costs 1" + "+1".repeat(68) + REST + " ", 1);
        reads("costs 1" + "+1".repeat(69) + REST, -260);
    }

    static void promise8_aTextThatEndsTooEarly() {
        String[] tokens = {"costs", "not", "size", "*", "-", "(", "from", "+", "to", "<", "9999", ")", "=", "1",
            "and", "wet", "or", "0", ";", "bell", "many", ";", "worth", "thing", ";"};
        StringBuilder text = new StringBuilder();
        for (String token : tokens) {
            reads(text.toString(), NO_SUCH - text.length());
            reads(text + " \n", NO_SUCH - text.length() - 2);
            text.append(token).append(' ');
        }
        reads(text.toString(), 1);
    }

    static void promise8_theTokenThatCantStandAtTheBeginning() {
        reads("bell 1;", -100);
        reads(" worth 1;", -101);
        reads("size", -100);
        reads("7", -100);
        reads(";", -100);
    }

    static void promise8_thePartsInTheirOrder() {
        reads("costs 1;worth 1;", -108);
        reads("costs 1;costs 1;", -108);
        reads("costs 1;bell 1;bell 1;", -115);
        reads("costs 1;bell 1;costs 1;", -115);
        reads("costs 1;;", -108);
        reads("costs 1 bell 1;", -108);
    }

    static void promise8_nothingMayStandBehindTheLast() {
        reads("costs 1;bell 1;worth 1; x", -124);
        reads("costs 1;bell 1;worth 1;costs 1;", -123);
        reads("costs 1;bell 1;worth 1;;", -123);
        reads("costs 1;bell 1;worth 1;\n", 1);
    }

    static void promise8_anEMustStandThere() {
        readsE("", 0);
        readsE(")", 0);
        readsE("()", 1);
        readsE("*1", 0);
        readsE("+1", 0);
        readsE("<1", 0);
        readsE("=1", 0);
        readsE("or 1", 0);
        readsE("and 1", 0);
        readsE("bell", 0);
        readsE("costs", 0);
        readsE("worth", 0);
    }

    static void promise8_aSecondOperandMustStandThere() {
        readsE("1+", 2);
        readsE("1-", 2);
        readsE("1*", 2);
        readsE("1<", 2);
        readsE("1=", 2);
        readsE("1 or", 4);
        readsE("1 and", 5);
        readsE("1+*1", 2);
        readsE("1*+1", 2);
        readsE("1 and or 1", 6);
        readsE("1 or and 1", 5);
    }

    static void promise8_anOperandMustStandBehindThatWhichOpens() {
        readsE("not", 3);
        readsE("not )", 4);
        readsE("(not)", 4);
        readsE("not and 1", 4);
        readsE("not <1", 4);
        readsE("-", 1);
        readsE("-)", 1);
        readsE("-*1", 1);
        readsE("- or 1", 2);
        readsE("(", 1);
        readsE("(<1)", 1);
        readsE("((1)+)", 5);
    }

    static void promise8_oneOperandBehindAnother() {
        readsE("1 1", 2);
        readsE("size from", 5);
        readsE("1 size", 2);
        readsE("(1)1", 3);
        readsE("1(1)", 1);
        readsE("1 not 1", 2);
    }

    static void promise8_aComparisonStandsButOnce() {
        readsE("1<2<3", 3);
        readsE("1<2=3", 3);
        readsE("1=2<3", 3);
        readsE("1=2=3", 3);
        readsE("(1<2)<3", NONE);
        readsE("1<(2=3)", NONE);
        readsE("1<2 and 2<3", NONE);
        readsE("not 1<2<3", 7);
        readsE("((1<2)=3)=4", NONE);
    }

    static void promise8_notStandsAheadOfAComparisonAlone() {
        readsE("1+not 2", 2);
        readsE("1*not 2", 2);
        readsE("1<not 2", 2);
        readsE("-not 2", 1);
        readsE("1 and not 2", NONE);
        readsE("1 or not 2", NONE);
        readsE("1+(not 2)", NONE);
        readsE("not not 1<2", NONE);
    }

    static void promise8_bracketsMustMatch() {
        readsE("(1", 2);
        readsE("1)", 1);
        readsE("(1))", 3);
        readsE("((1)", 4);
        readsE("(1;", 2);
        readsE("(1 or 2 and 3<4+5*6)", NONE);
    }

    static void promise8_aByteThatBeginsNone() {
        for (int c = 0; c < 256; c++) {
            boolean begins = c >= 'a' && c <= 'z' || c >= '0' && c <= '9' || c == 32 || c == 10
                || "();+-*<=".indexOf(c) >= 0;
            if (!begins) {
                reads("costs size " + (char) c + REST, -111);
                reads("costs " + (char) c + "1" + REST, -106);
            }
        }
    }

    static void promise8_blanksAre32And10() {
        reads("\n costs\n1\n ;\nbell 1\n; worth 1 ;\n ", 1);
        reads("costs\t1" + REST, -105);
        reads("costs\r1" + REST, -105);
        reads("costs\u00a01" + REST, -105);
        reads("costs" + (char) 0 + "1" + REST, -105);
    }

    static void promise8_blanksMayStandAwayToo() {
        reads("costs1;bell2;worth3;", 1);
        reads("costs(size)*2<3and not4or-5;bell 1;worth 1;", 1);
    }

    static void promise8_blanksEndAToken() {
        reads("cos ts 1" + REST, -100);
        readsE("1 2", 2);
        readsE("si ze", 0);
    }

    static void promise8_wordsAsLongAsCanBe() {
        reads("costssize" + REST, -100);
        readsE("notsize", 0);
        readsE("1 orsize", 2);
        readsE("sizefrom", 0);
        readsE("sizeor 1", 0);
    }

    static void promise8_aWordNeitherKeyNorName() {
        readsE("sizes", 0);
        readsE("siz", 0);
        readsE("s", 0);
        readsE("size + x", 7);
        readsE("nor", 0);
        readsE("notandor", 0);
        readsE("abcdefghijklmnopqrstuvwxyz", 0);
        readsE("aize", 0);
        readsE("sizf", 0);
        readsE("(x)", 1);
        readsE("-x", 1);
        readsE("not x", 4);
        readsE("1 x", 2);
        readsE("1;x", 2);
        reads("bosts 1" + REST, -100);
        reads("cost 1" + REST, -100);
        reads("costs 1;bells 1;", -108);
    }

    static void promise8_eachNameStands() {
        for (String name : new String[] {"size", "from", "to", "thing", "many", "wet"}) {
            readsE(name, NONE);
            reads("costs 1;bell " + name + ";worth " + name + ";", 1);
        }
    }

    static void promise8_aNumberOf4DigitsAtMost() {
        readsE("0", NONE);
        readsE("9999", NONE);
        readsE("0000", NONE);
        readsE("10000", 0);
        readsE("00000", 0);
        readsE("1+00001", 2);
        readsE("1234567890123456789012345678901234567890", 0);
    }

    static void promise8_aNumberEndsWhereItsDigitsEnd() {
        readsE("1x", 1);
        readsE("1size", 1);
        readsE("9999size", 4);
        readsE("1or 2", NONE);
    }

    static void promise8_theFirstOfSeveralFaults() {
        readsE(") @ 10000 x", 0);
        readsE("@ )", 0);
        readsE("1 1 @", 2);
        readsE("10000 @", 0);
        readsE("(1 @", 3);
        reads("bell @", -100);
    }

    static void promise8_aBracketWhile5AreOpen() {
        readsE("(((((1)))))", NONE);
        readsE("((((((1))))))", 5);
        readsE("(((((1+(1))))))", 7);
    }

    static void promise8_aNotWhile5AreOpen() {
        readsE("not not not not not 1", NONE);
        readsE("not not not not not not 1", 20);
        readsE("(((((not 1)))))", 5);
        readsE("((((not 1))))", NONE);
    }

    static void promise8_aMinusWhile5AreOpen() {
        readsE("-----1", NONE);
        readsE("------1", 5);
        readsE("(((((-1)))))", 5);
        readsE("((((-1))))", NONE);
        readsE("not not not not not -1", 20);
    }

    static void promise8_theyCountTogether() {
        readsE("not(-(-1))", NONE);
        readsE("not(-(--1))", 7);
        readsE("not(-((1)))", NONE);
        readsE("not(-(((1))))", 7);
        readsE("not(-(not 1))", NONE);
        readsE("not(-(not not 1))", 10);
    }

    static void promise8_aBracketIsOpenTillItsEnd() {
        readsE("(((((1)))))+(((((1)))))", NONE);
        readsE("((((1))+((1))))", NONE);
        readsE("((((1)+((1)))))", NONE);
        readsE("((((1)+(((1))))))", 9);
    }

    static void promise8_aNotIsOpenTillWhatItBelongsToEnds() {
        readsE("not not not not not 1 and not not not not not 1", NONE);
        readsE("not not not not not 1 or (1)", NONE);
        readsE("not not not not not 1 < -1", 24);
        readsE("not not not not not 1 + (1)", 24);
        readsE("not not not not not 1 - 1", NONE);
        readsE("not not not not 1 < -1", NONE);
    }

    static void promise8_aMinusIsOpenTillItsOneEnds() {
        readsE("-----1*-----1", NONE);
        readsE("-----1+(((((1)))))", NONE);
        readsE("----(1)-(((((1)))))", NONE);
        readsE("----(-1)", 5);
    }

    static void promise8_aMinusBetweenTwoIsNoneOfThese() {
        readsE("(((((1-1-1)))))", NONE);
        readsE("(((((1--1)))))", 7);
        readsE("-----1-1", NONE);
    }

    static void promise8_noneIsOpenInTheNextPart() {
        reads("costs -----1;bell -----1;worth (((((1)))));", 1);
    }

    // ---- 9 force

    static void promise9_whichWas() {
        BothHandsFull x = new BothHandsFull();
        text(x, "costs 7;bell 8;worth 9;");
        text(x, "costs 4;bell 5;worth 6;");
        due("0 was", x.force(1), 0);
        due("THE RULE", x.count(6), 1);
        due("bell", x.asks(1, 0, 0), 8);
        due("1 was", x.force(2), 1);
        due("bell then", x.asks(1, 0, 0), 5);
        due("2 was", x.force(0), 2);
        due("bell of the first", x.asks(1, 0, 0), 20);
    }

    static void promise9_theSame() {
        due(new BothHandsFull().force(0), 0);
    }

    static void promise9_theLastOfSix() {
        BothHandsFull x = new BothHandsFull();
        for (int n = 1; n < 6; n++) {
            text(x, "costs 1" + REST);
        }
        due("the last", x.force(5), 0);
        refused(x, "behind it", BAD, y -> y.force(6));
    }

    static void promise9_badNoSuchText() {
        for (int text : new int[] {-1, 1, 6, LEAST_INT, MOST_INT}) {
            refused(new BothHandsFull(), "TEXT " + text, BAD, x -> x.force(text));
        }
    }
}
