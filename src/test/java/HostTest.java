/** Promises 27 to 31: SHEETS, THINGS by a SHEET, a HOLD taken for one of a KIND. */
public final class HostTest extends Checks {
    public static void main(String[] args) {
        run(HostTest.class, 27, 31);
    }

    /** A STEP that takes all; by SHEET 0, of a sort, THINGS of 1 to 5 could come to it. */
    private static BothHandsFull told(int sort) {
        BothHandsFull x = holds(STEP, 9);
        row(x, 0, sort, 10, 0, 20, 0, 30, 0, 40, 0, 50, 0);
        return x;
    }

    /** The SIZES of the THINGS that a SHEET tells now, one digit each. */
    private static int sizes(BothHandsFull x, int sheet, int sort, int n) {
        int sizes = 0;
        int came = x.things(sheet, sort, 0, n);
        for (int t = 0; t < came; t++) {
            sizes = 10 * sizes + x.told(t, 8);
        }
        return sizes;
    }

    // ---- 27 sheet

    static void promise27_eachSort() {
        BothHandsFull x = holds(STEP, 9);
        for (int sort = 0; sort < 3; sort++) {
            due("sort " + sort, x.sheet(sort, sort, 2), 1);
            due("it is of it", x.things(sort, sort, 0, 1), 0);
            due("it is of no other", x.things(sort, (sort + 1) % 3, 0, 1), UNLIKE);
        }
    }

    static void promise27_nFrom0To40() {
        BothHandsFull x = new BothHandsFull();
        due("40", x.sheet(0, 0, 40), 1);
        due("its last item", x.cell(0, 39, 1), 1);
        due("behind it", x.cell(0, 40, 1), OUTSIDE);
        due("0", x.sheet(0, 0, 0), 1);
        due("it has no item", x.cell(0, 0, 1), OUTSIDE);
        due("it is not missing", x.judge(0, 0), NONE);
    }

    static void promise27_badNAbove40() {
        for (int n : new int[] {41, 100, MOST_INT}) {
            refused(told(0), "n " + n, BAD, x -> x.sheet(0, 0, n));
        }
    }

    static void promise27_nBelow0() {
        for (int n : new int[] {-1, -40, LEAST_INT}) {
            refused(told(0), "n " + n, BELOW, x -> x.sheet(0, 0, n));
            refused(told(0), "n " + n + " of one that is missing", BELOW, x -> x.sheet(1, 2, n));
        }
    }

    static void promise27_badNoSuchSheet() {
        for (int s : new int[] {-1, 4, LEAST_INT, MOST_INT}) {
            refused(told(0), "SHEET " + s, BAD, x -> x.sheet(s, 0, 1));
            refused(told(0), "SHEET " + s + ", missing", BAD, x -> x.sheet(s, -1, 1));
        }
        due("the last", new BothHandsFull().sheet(3, 0, 1), 1);
    }

    static void promise27_badNoSuchSort() {
        for (int sort : new int[] {-2, 3, LEAST_INT, MOST_INT}) {
            refused(told(0), "sort " + sort, BAD, x -> x.sheet(0, sort, 1));
        }
    }

    static void promise27_badAheadOfBelow0() {
        refused(told(0), "SHEET 4", BAD, x -> x.sheet(4, 0, -1));
        refused(told(0), "sort 3", BAD, x -> x.sheet(0, 3, -1));
    }

    static void promise27_missingNDoesNotMatter() {
        for (int n : new int[] {0, 1, 41, -1, LEAST_INT, MOST_INT}) {
            BothHandsFull x = told(0);
            due("n " + n, x.sheet(0, -1, n), 1);
            due("it is missing", x.cell(0, 0, 0), NOTHING);
            due("again", x.sheet(0, -1, n), 1);
        }
    }

    static void promise27_all0() {
        BothHandsFull x = told(2);
        x.sheet(0, 2, 10);
        due("no THING comes by it", x.things(0, 2, 0, 5), 0);
        BothHandsFull y = fullHands();
        row(y, 0, 0, 5, 5, 5);
        y.sheet(0, 0, 0);
        y.sheet(0, 0, 3);
        due("all in HOLD 0 they may not lie", y.soonest(0), NONE);
        BothHandsFull z = with(holds(HOLD, 9), 10, 0, 10, 0);
        row(z, 0, 0, 5, 5);
        z.sheet(0, -1, 0);
        z.sheet(0, 0, 2);
        due("all in HOLD 0", z.soonest(0), 0);
    }

    static void promise27_othersStay() {
        BothHandsFull x = told(0);
        x.sheet(1, 0, 2);
        x.sheet(2, -1, 0);
        due(sizes(x, 0, 0, 5), 12345);
    }

    // ---- 28 cell

    static void promise28_theFirstAndTheLastItem() {
        BothHandsFull x = holds(STEP, 9);
        x.sheet(0, 0, 2);
        due("the first", x.cell(0, 0, 30), 1);
        due("the last", x.cell(0, 1, 0), 1);
        due("what they tell", sizes(x, 0, 0, 1), 3);
    }

    static void promise28_aPlaceOutside() {
        for (int i : new int[] {-1, 10, 40, LEAST_INT, MOST_INT}) {
            refused(told(0), "item " + i, OUTSIDE, x -> x.cell(0, i, 1));
        }
    }

    static void promise28_outsideOfOneThatHadMore() {
        BothHandsFull x = told(0);
        x.sheet(0, 0, 1);
        due(x.cell(0, 1, 1), OUTSIDE);
    }

    static void promise28_badNoSuchSheet() {
        for (int s : new int[] {-1, 4, LEAST_INT, MOST_INT}) {
            refused(told(0), "SHEET " + s, BAD, x -> x.cell(s, 0, 1));
            refused(told(0), "SHEET " + s + " ahead of a place outside", BAD, x -> x.cell(s, 99, 1));
        }
    }

    static void promise28_itIsMissing() {
        for (int s = 1; s < 4; s++) {
            due("SHEET " + s, told(0).cell(s, 0, 1), NOTHING);
            due("SHEET " + s + " ahead of a place outside", told(0).cell(s, -1, 1), NOTHING);
        }
    }

    /** Whether v tells the HOLD of the only THING, by a SHEET of a sort. */
    private static int tellsHold(int sort, int v) {
        BothHandsFull x = with(holds(HOLD, 9, HOLD, 9), 10, 1);
        row(x, 0, sort, v);
        return (int) x.ways(0, 0);
    }

    static void promise28_bytesKeepTheLowest8Bits() {
        due("1", tellsHold(0, 1), 1);
        due("256 and 1", tellsHold(0, 257), 1);
        due("all but the lowest", tellsHold(0, -255), 1);
        due("65536 and 1", tellsHold(0, 65537), 1);
        due("129 is not 1", tellsHold(0, 129), 0);
        due("2", tellsHold(0, 2), 0);
    }

    static void promise28_shortsKeepTheLowest16Bits() {
        due("1", tellsHold(1, 1), 1);
        due("256 and 1", tellsHold(1, 257), 0);
        due("65536 and 1", tellsHold(1, 65537), 1);
        due("all but the lowest", tellsHold(1, -65535), 1);
        due("32769 is not 1", tellsHold(1, 32769), 0);
    }

    static void promise28_intsKeepAll() {
        due("1", tellsHold(2, 1), 1);
        due("256 and 1", tellsHold(2, 257), 0);
        due("65536 and 1", tellsHold(2, 65537), 0);
        due("the least and 1", tellsHold(2, LEAST_INT + 1), 0);
    }

    static void promise28_bytesTellMovesUpTo44() {
        BothHandsFull x = crowd();
        row(x, 0, 0, 44, 300);
        due("44, and 300 is 44", x.judge(0, 0), 1);
        row(x, 0, 0, 44, 256 + 40);
        due("44, and 296 is 40", x.judge(0, 0), NONE);
    }

    // ---- 29 copy

    static void promise29_howMany() {
        BothHandsFull x = told(0);
        x.sheet(1, 0, 4);
        due("copy", x.copy(0, 2, 1, 0, 4), 4);
        due("what came", sizes(x, 1, 0, 2), 23);
    }

    static void promise29_fromItemIToItemJ() {
        BothHandsFull x = told(2);
        row(x, 3, 2, 60, 0, 70, 0, 80, 0);
        due("copy", x.copy(0, 8, 3, 2, 2), 2);
        due("what is there", sizes(x, 3, 2, 3), 658);
    }

    static void promise29_allOfIt() {
        for (int sort = 0; sort < 3; sort++) {
            BothHandsFull x = told(sort);
            x.sheet(1, sort, 10);
            due("copy", x.copy(0, 0, 1, 0, 10), 10);
            due("what came", sizes(x, 1, sort, 5), 12345);
        }
    }

    static void promise29_theOtherStaysAsItWas() {
        BothHandsFull x = told(0);
        x.sheet(1, 0, 10);
        x.copy(0, 0, 1, 0, 10);
        due(sizes(x, 0, 0, 5), 12345);
    }

    static void promise29_asTheyWereForward() {
        BothHandsFull x = told(0);
        due("copy", x.copy(0, 0, 0, 2, 8), 8);
        due("what is there", sizes(x, 0, 0, 5), 11234);
    }

    static void promise29_asTheyWereBackward() {
        BothHandsFull x = told(1);
        due("copy", x.copy(0, 2, 0, 0, 8), 8);
        due("what is there", sizes(x, 0, 1, 5), 23455);
    }

    static void promise29_none() {
        BothHandsFull x = told(0);
        x.sheet(1, 0, 0);
        refused(x, "within", 0, y -> y.copy(0, 3, 0, 4, 0));
        refused(x, "just behind the end", 0, y -> y.copy(0, 10, 1, 0, 0));
        refused(x, "farther", OUTSIDE, y -> y.copy(0, 11, 1, 0, 0));
        refused(x, "farther there", OUTSIDE, y -> y.copy(0, 0, 1, 1, 0));
        refused(x, "ahead of the first", OUTSIDE, y -> y.copy(0, -1, 1, 0, 0));
        refused(x, "ahead of the first there", OUTSIDE, y -> y.copy(0, 0, 1, -1, 0));
    }

    static void promise29_outsideWithNBelow0() {
        for (int n : new int[] {-1, -10, LEAST_INT}) {
            refused(told(0), "n " + n, OUTSIDE, x -> x.copy(0, 5, 0, 5, n));
        }
    }

    static void promise29_aPlaceOutside() {
        BothHandsFull x = told(0);
        row(x, 1, 0, 60, 0, 70, 0);
        refused(x, "1 more than there is", OUTSIDE, y -> y.copy(0, 7, 1, 0, 4));
        refused(x, "1 more than has room", OUTSIDE, y -> y.copy(0, 0, 1, 1, 4));
        refused(x, "from below 0", OUTSIDE, y -> y.copy(0, -1, 1, 0, 2));
        refused(x, "to below 0", OUTSIDE, y -> y.copy(0, 0, 1, -1, 2));
        refused(x, "more than a SHEET can have", OUTSIDE, y -> y.copy(0, 0, 1, 0, 41));
        due("just as many", x.copy(0, 6, 1, 0, 4), 4);
    }

    static void promise29_placesThatWouldWrap() {
        BothHandsFull x = told(0);
        refused(x, "i and n", OUTSIDE, y -> y.copy(0, MOST_INT, 0, 0, MOST_INT));
        refused(x, "i and 1", OUTSIDE, y -> y.copy(0, MOST_INT, 0, 0, 1));
        refused(x, "j and 1", OUTSIDE, y -> y.copy(0, 0, 0, MOST_INT, 1));
        refused(x, "n", OUTSIDE, y -> y.copy(0, 1, 0, 1, MOST_INT));
        refused(x, "i, far below", OUTSIDE, y -> y.copy(0, LEAST_INT, 0, 0, LEAST_INT));
        refused(x, "j, far below", OUTSIDE, y -> y.copy(0, 0, 0, LEAST_INT, MOST_INT));
    }

    static void promise29_badNoSuchSheet() {
        for (int s : new int[] {-1, 4, LEAST_INT, MOST_INT}) {
            refused(told(0), "SHEET " + s, BAD, x -> x.copy(s, 0, 0, 0, 1));
            refused(told(0), "other " + s, BAD, x -> x.copy(0, 0, s, 0, 1));
            refused(told(0), "other " + s + " ahead of what is missing", BAD, x -> x.copy(1, 0, s, 0, 1));
        }
    }

    static void promise29_oneIsMissing() {
        refused(told(0), "the first", NOTHING, x -> x.copy(1, 0, 0, 0, 1));
        refused(told(0), "the other", NOTHING, x -> x.copy(0, 0, 1, 0, 1));
        refused(told(0), "both", NOTHING, x -> x.copy(1, 0, 2, 0, 1));
        refused(told(0), "of none", NOTHING, x -> x.copy(1, 0, 0, 0, 0));
        refused(told(0), "ahead of a place outside", NOTHING, x -> x.copy(1, -1, 0, 0, 99));
    }

    static void promise29_unlikeSorts() {
        for (int sort = 1; sort < 3; sort++) {
            BothHandsFull x = told(0);
            x.sheet(1, sort, 10);
            refused(x, "bytes to sort " + sort, UNLIKE, y -> y.copy(0, 0, 1, 0, 1));
            refused(x, "sort " + sort + " to bytes", UNLIKE, y -> y.copy(1, 0, 0, 0, 1));
            refused(x, "of none", UNLIKE, y -> y.copy(0, 0, 1, 0, 0));
            refused(x, "ahead of a place outside", UNLIKE, y -> y.copy(0, 99, 1, 0, 1));
            refused(x, "ahead of n below 0", UNLIKE, y -> y.copy(0, 0, 1, 0, -1));
        }
    }

    // ---- 30 things

    static void promise30_twoByTwoFromOneOn() {
        BothHandsFull x = holds(HOLD, 9, STEP, 9);
        row(x, 0, 0, 99, 31, 0, 20, 1, 99);
        due("how many", x.things(0, 0, 1, 2), 2);
        due("SIZE", x.told(0, 8), 3);
        due("DRY", x.told(0, 9), 1);
        due("its HOLD", x.told(0, 10), 0);
        due("SIZE of the other", x.told(1, 8), 2);
        due("DRY of the other", x.told(1, 9), 0);
        due("its HOLD", x.told(1, 10), 1);
    }

    static void promise30_nFrom0To5() {
        refused(told(0), "none", 0, x -> x.things(0, 0, 0, 0));
        due("five", told(0).things(0, 0, 0, 5), 5);
        due("of each sort", told(1).things(0, 1, 0, 5) + told(2).things(0, 2, 0, 5), 10);
    }

    static void promise30_othersAreLeftOut() {
        BothHandsFull x = holds(HOLD, 0, STEP, 0);
        row(x, 0, 1, 20, 0, 31, 1, 10, 1, 50, 0, 40, 0);
        due("WET, then ROOM", x.things(0, 1, 0, 4), 2);
        due("THINGS", x.count(1), 2);
        due("the first", x.told(0, 8), 2);
        due("the third", x.told(1, 10), 1);
        due("one that MAY", x.things(0, 1, 8, 1), 1);
    }

    static void promise30_whatIsBadIsLeftOut() {
        BothHandsFull x = holds(STEP, 9);
        row(x, 0, 0, 12, 0, 10, 1, 9, 0, 10, -1, 40, 0);
        due("how many", x.things(0, 0, 0, 5), 1);
        due("which", x.told(0, 8), 4);
    }

    static void promise30_whatFindsNoRoomIsLeftOut() {
        BothHandsFull x = told(0);
        with(x, 10, 0, 10, 0, 10, 0);
        due("two more", x.things(0, 0, 0, 5), 2);
        refused(x, "none more", 0, y -> y.things(0, 0, 0, 5));
    }

    static void promise30_aPlaceOutsideWhatStoodAheadCame() {
        BothHandsFull x = told(0);
        due("one pair, then none", x.things(0, 0, 8, 2), OUTSIDE);
        due("THINGS", x.count(1), 1);
        due("SIZE", x.told(0, 8), 5);
    }

    static void promise30_halfAPairIsOutside() {
        refused(told(0), "its second number is outside", OUTSIDE, x -> x.things(0, 0, 9, 1));
        BothHandsFull x = holds(STEP, 9);
        row(x, 0, 0, 10, 0, 20);
        due("behind a whole one", x.things(0, 0, 0, 2), OUTSIDE);
        due("THINGS", x.count(1), 1);
    }

    static void promise30_fromOutside() {
        for (int from : new int[] {-1, -2, 10, 40, LEAST_INT, MOST_INT, MOST_INT - 1}) {
            refused(told(0), "from " + from, OUTSIDE, x -> x.things(0, 0, from, 1));
            refused(told(0), "five from " + from, OUTSIDE, x -> x.things(0, 0, from, 5));
        }
    }

    static void promise30_ofNoneNoPlaceIsOutside() {
        refused(told(0), "from behind the end", 0, x -> x.things(0, 0, 99, 0));
        refused(told(0), "from below 0", 0, x -> x.things(0, 0, -1, 0));
    }

    static void promise30_badNoSuchSheet() {
        for (int s : new int[] {-1, 4, LEAST_INT, MOST_INT}) {
            refused(told(0), "SHEET " + s, BAD, x -> x.things(s, 0, 0, 1));
        }
    }

    static void promise30_badNoSuchSort() {
        for (int sort : new int[] {-1, 3, LEAST_INT, MOST_INT}) {
            refused(told(0), "sort " + sort, BAD, x -> x.things(0, sort, 0, 1));
            refused(told(0), "sort " + sort + " of one that is missing", BAD, x -> x.things(1, sort, 0, 1));
        }
    }

    static void promise30_badN() {
        for (int n : new int[] {-1, 6, LEAST_INT, MOST_INT}) {
            refused(told(0), "n " + n, BAD, x -> x.things(0, 0, 0, n));
            refused(told(0), "n " + n + " ahead of another sort", BAD, x -> x.things(0, 1, 0, n));
        }
    }

    static void promise30_ofAnotherSort() {
        for (int sort = 0; sort < 3; sort++) {
            for (int taken = 0; taken < 3; taken++) {
                int of = taken;
                if (taken != sort) {
                    refused(told(sort), "taken for " + of, UNLIKE, x -> x.things(0, of, 0, 1));
                    refused(told(sort), "of none", UNLIKE, x -> x.things(0, of, 0, 0));
                    refused(told(sort), "ahead of a place outside", UNLIKE, x -> x.things(0, of, 99, 1));
                }
            }
        }
    }

    static void promise30_itIsMissing() {
        for (int sort = 0; sort < 3; sort++) {
            int taken = sort;
            refused(told(0), "taken for " + sort, NOTHING, x -> x.things(1, taken, 0, 1));
            refused(told(0), "of none", NOTHING, x -> x.things(1, taken, 0, 0));
            refused(told(0), "ahead of a place outside", NOTHING, x -> x.things(1, taken, -1, 1));
        }
    }

    // ---- 31 taken

    static void promise31_kindByKind() {
        boolean[][] fits = {
            {true, false, false, false, false, false}, {true, true, false, false, false, false},
            {true, false, true, false, false, false}, {true, true, false, true, false, false},
            {true, false, true, false, true, false}, {true, false, true, false, false, true},
        };
        for (int kind = 0; kind < 6; kind++) {
            for (int k = 0; k < 6; k++) {
                due("KIND " + kind + " for " + k, holds(kind, 7).taken(0, k), fits[kind][k] ? 7 : UNLIKE);
            }
        }
    }

    static void promise31_itsNumber() {
        for (int number = 0; number < 10; number++) {
            due("NUMBER", holds(NAIL, number).taken(0, HOLD), number);
        }
        BothHandsFull x = holds(HAND, 3, KNEE, 4);
        x.set(2, 1, 8);
        due("as it is now", x.taken(1, HAND), 8);
    }

    static void promise31_badK() {
        for (int k : new int[] {-1, 6, LEAST_INT, MOST_INT}) {
            due("k " + k, crowd().taken(0, k), BAD);
            due("k " + k + " ahead of no such HOLD", crowd().taken(5, k), BAD);
        }
    }

    static void promise31_noSuchHold() {
        for (int h : new int[] {-1, 5, LEAST_INT, MOST_INT}) {
            for (int k = 0; k < 6; k++) {
                due("HOLD " + h + " for " + k, crowd().taken(h, k), NOTHING);
            }
        }
        due("where there is none", new BothHandsFull().taken(0, 0), NOTHING);
        due("the last", crowd().taken(4, 0), 9);
    }
}
