/** Promises 1 to 6: a new object, HOLDS, THINGS. */
public final class HoldsTest extends Checks {
    public static void main(String[] args) {
        run(HoldsTest.class, 1, 6);
    }

    // ---- 1 A new object

    static void promise1_noHolds() {
        BothHandsFull x = new BothHandsFull();
        due("how many", x.count(0), 0);
        for (int what = 0; what < 8; what++) {
            due("HOLD 0, what " + what, x.told(0, what), NO_SUCH);
        }
        due("the first has number", x.hold(HOLD, 0), 0);
    }

    static void promise1_noThings() {
        BothHandsFull x = holds(HOLD, 9);
        due("how many", x.count(1), 0);
        for (int what = 8; what < 12; what++) {
            due("THING 0, what " + what, x.told(0, what), NO_SUCH);
        }
        due("nothing lies there", x.told(0, 6), 0);
        due("the first has number", x.thing(10, 0), 0);
    }

    static void promise1_theKeyIsNoneAtFirst() {
        due("THE KEY", new BothHandsFull().count(3), NONE);
        due("still, when THINGS have come", with(holds(HAND, 0), 10, 0).count(3), NONE);
    }

    static void promise1_freeIs1AtFirst() {
        due(new BothHandsFull().count(2), 1);
    }

    static void promise1_noneAreApartAtFirst() {
        BothHandsFull x = crowd();
        for (int t = 0; t < 5; t++) {
            due("from THING " + t, x.told(t, 11), 0);
        }
    }

    static void promise1_text0IsTheRuleAtFirst() {
        BothHandsFull x = with(holds(HOLD, 9, STEP, 9), 70, 0);
        due("TEXTS", x.count(4), 1);
        due("THE RULE", x.count(6), 0);
        due("costs size", x.asks(0, 0, 1), 7);
        due("bell 20", x.asks(1, 0, 0), 20);
        due("worth 10", x.asks(2, 0, 0), 10);
    }

    static void promise1_theTapeIsEmpty() {
        BothHandsFull x = new BothHandsFull();
        due("bytes", x.count(5), 0);
        due("the first byte makes", x.feed(32), 1);
    }

    static void promise1_allSheetsAreMissing() {
        BothHandsFull x = new BothHandsFull();
        for (int s = 0; s < 4; s++) {
            due("SHEET " + s, x.cell(s, 0, 0), NOTHING);
        }
    }

    static void promise1_thereIsNoImage() {
        due(new BothHandsFull().back(), STATE);
    }

    static void promise1_eachObjectIsForItself() {
        BothHandsFull x = new BothHandsFull();
        BothHandsFull y = new BothHandsFull();
        x.hold(HAND, 9);
        x.thing(10, 0);
        x.feed(99);
        x.image();
        row(x, 0, 0, 1);
        due("HOLDS of the other", y.count(0), 0);
        due("THINGS of the other", y.count(1), 0);
        due("THE TAPE of the other", y.count(5), 0);
        due("SHEETS of the other", y.cell(0, 0, 0), NOTHING);
        due("THE IMAGE of the other", y.back(), STATE);
    }

    static void promise1_usedFor512Calls() {
        BothHandsFull x = fullHands();
        x.image();
        int called = 8;
        while (called < 508) {
            x.move(1, 2);
            x.back();
            called += 2;
        }
        due("call 509", x.best(2), 7);
        due("call 510", x.roomy(1), 5);
        due("call 511", x.move(1, 2), 3);
        due("call 512", x.best(0), 2);
    }

    static void promise1_constants() {
        due("NONE", BothHandsFull.NONE, -1);
        due("BAD", BothHandsFull.BAD, -2);
        due("STATE", BothHandsFull.STATE, -3);
        due("FULL", BothHandsFull.FULL, -4);
        due("NO", BothHandsFull.NO, -4611686018427387904L);
    }

    // ---- 2 hold

    static void promise2_holdsAreNumberedFrom0() {
        BothHandsFull x = new BothHandsFull();
        for (int h = 0; h < 5; h++) {
            due("hold", x.hold(h, h), h);
            due("how many", x.count(0), h + 1);
        }
    }

    static void promise2_theLeastKindAndNumber() {
        BothHandsFull x = new BothHandsFull();
        due("hold(0, 0)", x.hold(0, 0), 0);
        due("KIND", x.told(0, 0), 0);
        due("NUMBER", x.told(0, 1), 0);
    }

    static void promise2_theGreatestKindAndNumber() {
        BothHandsFull x = new BothHandsFull();
        due("hold(5, 9)", x.hold(5, 9), 0);
        due("KIND", x.told(0, 0), 5);
        due("NUMBER", x.told(0, 1), 9);
    }

    static void promise2_badKindBelow0() {
        for (int kind : new int[] {-1, -6, LEAST_INT}) {
            refused(holds(HAND, 3), "KIND " + kind, BAD, x -> x.hold(kind, 0));
        }
    }

    static void promise2_badKindAbove5() {
        for (int kind : new int[] {6, 7, MOST_INT}) {
            refused(holds(HAND, 3), "KIND " + kind, BAD, x -> x.hold(kind, 0));
        }
    }

    static void promise2_badNumberBelow0() {
        for (int number : new int[] {-1, -10, LEAST_INT}) {
            refused(holds(HAND, 3), "NUMBER " + number, BAD, x -> x.hold(HOLD, number));
        }
    }

    static void promise2_badNumberAbove9() {
        for (int number : new int[] {10, 11, MOST_INT}) {
            refused(holds(HAND, 3), "NUMBER " + number, BAD, x -> x.hold(HOLD, number));
        }
    }

    static void promise2_fiveAtMostThenFull() {
        BothHandsFull five = holds(HOLD, 0, HAND, 0, SILL, 0, KNEE, 0);
        due("the fifth", five.hold(STEP, 9), 4);
        refused(five, "the sixth", FULL, x -> x.hold(HOLD, 0));
        due("how many", five.count(0), 5);
    }

    static void promise2_badAheadOfFull() {
        refused(crowd(), "KIND 6", BAD, x -> x.hold(6, 0));
        refused(crowd(), "KIND -1", BAD, x -> x.hold(-1, 0));
        refused(crowd(), "NUMBER 10", BAD, x -> x.hold(HOLD, 10));
        refused(crowd(), "NUMBER -1", BAD, x -> x.hold(HOLD, -1));
    }

    static void promise2_aRefusedHoldTakesNoNumber() {
        BothHandsFull x = new BothHandsFull();
        x.hold(6, 0);
        x.hold(0, 10);
        due("the first that comes", x.hold(NAIL, 4), 0);
        due("its KIND", x.told(0, 0), NAIL);
    }

    // ---- 3 thing

    static void promise3_thingsAreNumberedFrom0() {
        BothHandsFull x = holds(HOLD, 9);
        for (int t = 0; t < 5; t++) {
            due("thing", x.thing(10, 0), t);
            due("how many", x.count(1), t + 1);
        }
    }

    static void promise3_theLeastSize() {
        BothHandsFull x = holds(HOLD, 0);
        due("thing(10, 0)", x.thing(10, 0), 0);
        due("SIZE", x.told(0, 8), 1);
        due("DRY", x.told(0, 9), 0);
        due("its HOLD", x.told(0, 10), 0);
    }

    static void promise3_theGreatestSizeAndDry() {
        BothHandsFull x = holds(NAIL, 0, HOLD, 9);
        due("thing(91, 1)", x.thing(91, 1), 0);
        due("SIZE", x.told(0, 8), 9);
        due("DRY", x.told(0, 9), 1);
        due("its HOLD", x.told(0, 10), 1);
    }

    static void promise3_badSize0() {
        refused(holds(HOLD, 9), "SIZE 0", BAD, x -> x.thing(0, 0));
        refused(holds(HOLD, 9), "SIZE 0, DRY", BAD, x -> x.thing(1, 0));
        refused(holds(HOLD, 9), "9", BAD, x -> x.thing(9, 0));
    }

    static void promise3_badSizeAbove9() {
        for (int what : new int[] {100, 101, 110, 1000, MOST_INT}) {
            refused(holds(SILL, 9), "what " + what, BAD, x -> x.thing(what, 0));
        }
    }

    static void promise3_badDryAbove1() {
        for (int what : new int[] {12, 19, 22, 92, 99}) {
            refused(holds(HOLD, 9), "what " + what, BAD, x -> x.thing(what, 0));
        }
    }

    static void promise3_badBelow0() {
        for (int what : new int[] {-1, -9, -10, -11, -20, LEAST_INT}) {
            refused(holds(HOLD, 9), "what " + what, BAD, x -> x.thing(what, 0));
        }
    }

    static void promise3_badNoSuchHold() {
        for (int hold : new int[] {-1, 2, 5, LEAST_INT, MOST_INT}) {
            refused(holds(HOLD, 9, HOLD, 9), "HOLD " + hold, BAD, x -> x.thing(10, hold));
        }
        refused(new BothHandsFull(), "no HOLD at all", BAD, x -> x.thing(10, 0));
        due("the last HOLD", holds(HOLD, 9, HOLD, 9).thing(10, 1), 0);
    }

    static void promise3_fiveAtMostThenFull() {
        BothHandsFull x = holds(HOLD, 9);
        with(x, 10, 0, 10, 0, 10, 0, 10, 0);
        due("the fifth", x.thing(10, 0), 4);
        refused(x, "the sixth", FULL, y -> y.thing(10, 0));
        due("how many", x.count(1), 5);
    }

    static void promise3_badAheadOfFull() {
        refused(crowd(), "SIZE 0", BAD, x -> x.thing(1, 0));
        refused(crowd(), "DRY 2", BAD, x -> x.thing(12, 0));
        refused(crowd(), "no such HOLD", BAD, x -> x.thing(10, 5));
        refused(crowd(), "HOLD below 0", BAD, x -> x.thing(10, -1));
    }

    static void promise3_fullAheadOfState() {
        BothHandsFull x = with(holds(HOLD, 9, NAIL, 0, STEP, 0), 10, 0, 10, 0, 10, 0, 10, 0, 10, 0);
        refused(x, "too large", FULL, y -> y.thing(90, 1));
        refused(x, "what is WET", FULL, y -> y.thing(11, 2));
    }

    static void promise3_stateByRoomOfEachKind() {
        int[] rooms = {6, 3, 12, 1, 1, 12};
        for (int kind = 0; kind < 6; kind++) {
            int first = Math.min(rooms[kind], 9);
            int rest = rooms[kind] - first;
            BothHandsFull x = holds(kind, 0);
            if (first < 9) {
                refused(x, "1 more than KIND " + kind + " has", STATE, y -> y.thing(10 * first + 10, 0));
            }
            due("just as much in KIND " + kind, x.thing(10 * first, 0), 0);
            if (rest > 0) {
                refused(x, "1 more beside it in KIND " + kind, STATE, y -> y.thing(10 * rest + 10, 0));
                due("just as much beside it in KIND " + kind, x.thing(10 * rest, 0), 1);
            }
            due("ROOM left in KIND " + kind, x.told(0, 7), 0);
        }
    }

    static void promise3_stateByMostOfAHand() {
        BothHandsFull x = with(holds(HAND, 9), 10, 0, 10, 0);
        due("the third", x.thing(10, 0), 2);
        refused(x, "the fourth", STATE, y -> y.thing(10, 0));
    }

    static void promise3_stateByMostOfAKnee() {
        BothHandsFull x = holds(KNEE, 9);
        due("the first", x.thing(10, 0), 0);
        refused(x, "the second", STATE, y -> y.thing(10, 0));
    }

    static void promise3_stateByMostOfANail() {
        BothHandsFull x = holds(NAIL, 9);
        due("the first", x.thing(10, 0), 0);
        refused(x, "the second", STATE, y -> y.thing(10, 0));
    }

    static void promise3_fiveLieInAHoldASillAStep() {
        for (int kind : new int[] {HOLD, SILL, STEP}) {
            BothHandsFull x = with(holds(kind, 0), 10, 0, 10, 0, 10, 0, 10, 0);
            due("the fifth in KIND " + kind, x.thing(10, 0), 4);
        }
    }

    static void promise3_stateByWetOnlyOfAStep() {
        refused(holds(STEP, 9), "DRY on a STEP", STATE, x -> x.thing(11, 0));
        due("not DRY on a STEP", holds(STEP, 9).thing(10, 0), 0);
        for (int kind = 0; kind < 5; kind++) {
            due("DRY in KIND " + kind, holds(kind, 9).thing(11, 0), 0);
        }
    }

    static void promise3_apartFromNoneWhenItComes() {
        BothHandsFull x = with(holds(HOLD, 9, HOLD, 9), 10, 0);
        x.image();
        x.thing(10, 1);
        x.part(0, 1, 1);
        x.back();
        due("one of the number of one that went", x.thing(10, 0), 1);
        due("from it none", x.told(1, 11), 0);
        due("from the other none", x.told(0, 11), 0);
    }

    static void promise3_aRefusedThingTakesNoNumber() {
        BothHandsFull x = holds(HAND, 0, STEP, 0);
        x.thing(40, 0);
        x.thing(11, 1);
        x.thing(10, 2);
        due("the first that comes", x.thing(20, 1), 0);
        due("its SIZE", x.told(0, 8), 2);
        due("its DRY", x.told(0, 9), 0);
    }

    // ---- 4 set

    static void promise4_freeFrom0To3() {
        BothHandsFull x = new BothHandsFull();
        due("the greatest", x.set(0, 0, 3), 1);
        due("it is", x.count(2), 3);
        due("the least", x.set(0, 0, 0), 3);
        due("it is", x.count(2), 0);
    }

    static void promise4_freeIsOfNothing() {
        due("of above", new BothHandsFull().set(0, 99, 2), 1);
        due("of below", new BothHandsFull().set(0, -1, 2), 1);
    }

    static void promise4_freeBelow0IsNoneSuch() {
        refused(new BothHandsFull(), "FREE -1", NO_SUCH, x -> x.set(0, 0, -1));
        refused(new BothHandsFull(), "FREE far below", NO_SUCH, x -> x.set(0, 0, LEAST_INT));
    }

    static void promise4_freeAbove3IsNoneSuch() {
        refused(new BothHandsFull(), "FREE 4", NO_SUCH, x -> x.set(0, 0, 4));
        refused(new BothHandsFull(), "FREE far above", NO_SUCH, x -> x.set(0, 0, MOST_INT));
    }

    static void promise4_theKeyOfDoesNotMatter() {
        BothHandsFull x = crowd();
        due("of below", x.set(1, LEAST_INT, 4), NONE);
        due("of above", x.set(1, MOST_INT, 0), 4);
        due("THE KEY", x.count(3), 0);
    }

    static void promise4_theKeyMayBeNone() {
        BothHandsFull x = fullHands();
        due("it was", x.set(1, 0, NONE), 0);
        due("THE KEY", x.count(3), NONE);
        due("NONE it was", x.set(1, 0, NONE), NONE);
        due("without any THING, too", new BothHandsFull().set(1, 0, NONE), NONE);
    }

    static void promise4_theKeyNoSuchThing() {
        refused(fullHands(), "the one behind the last", NO_SUCH, x -> x.set(1, 0, 3));
        refused(fullHands(), "below NONE", NO_SUCH, x -> x.set(1, 0, -2));
        refused(fullHands(), "far above", NO_SUCH, x -> x.set(1, 0, MOST_INT));
        refused(fullHands(), "far below", NO_SUCH, x -> x.set(1, 0, LEAST_INT));
        refused(new BothHandsFull(), "where there is none", NO_SUCH, x -> x.set(1, 0, 0));
        due("the last", fullHands().set(1, 0, 2), 0);
    }

    static void promise4_numberFrom0To9() {
        BothHandsFull x = holds(HOLD, 4);
        due("the greatest", x.set(2, 0, 9), 4);
        due("ROOM", x.told(0, 2), 15);
        due("the least", x.set(2, 0, 0), 9);
        due("ROOM", x.told(0, 2), 6);
        due("NUMBER", x.told(0, 1), 0);
    }

    static void promise4_numberOutsideIsNoneSuch() {
        for (int v : new int[] {-1, 10, LEAST_INT, MOST_INT}) {
            refused(holds(HOLD, 4), "NUMBER " + v, NO_SUCH, x -> x.set(2, 0, v));
        }
    }

    static void promise4_numberOfNoSuchHold() {
        for (int of : new int[] {-1, 3, LEAST_INT, MOST_INT}) {
            refused(fullHands(), "HOLD " + of, NO_SUCH, x -> x.set(2, of, 9));
        }
        due("of the last", fullHands().set(2, 2, 9), 0);
    }

    static void promise4_stateWhatLiesInThatHoldMightnt() {
        BothHandsFull hand = with(holds(HAND, 5), 40, 0, 20, 0);
        refused(hand, "1 too few", STATE, x -> x.set(2, 0, 2));
        due("just enough", hand.set(2, 0, 3), 5);
        due("nothing is left", hand.told(0, 7), 0);
        refused(hand, "1 too few again", STATE, x -> x.set(2, 0, 2));
        BothHandsFull knee = with(holds(KNEE, 9), 20, 0);
        refused(knee, "half, cut, is too few", STATE, x -> x.set(2, 0, 0));
        due("half, cut, is enough", knee.set(2, 0, 1), 9);
    }

    static void promise4_theSameNumber() {
        BothHandsFull x = with(holds(HOLD, 4), 90, 0, 10, 0);
        due(x.set(2, 0, 4), 4);
    }

    static void promise4_otherHoldsDoNotMatter() {
        BothHandsFull x = with(holds(HOLD, 9, HOLD, 9), 90, 0);
        due("the empty one", x.set(2, 1, 0), 9);
        due("ROOM of the other", x.told(0, 2), 15);
    }

    static void promise4_dryIs0Or1() {
        BothHandsFull x = with(holds(HOLD, 9), 10, 0);
        due("DRY", x.set(3, 0, 1), 0);
        due("it is", x.told(0, 9), 1);
        due("the same", x.set(3, 0, 1), 1);
        due("not DRY", x.set(3, 0, 0), 1);
        due("it is not", x.told(0, 9), 0);
    }

    static void promise4_dryOutsideIsNoneSuch() {
        for (int v : new int[] {-1, 2, LEAST_INT, MOST_INT}) {
            refused(fullHands(), "DRY " + v, NO_SUCH, x -> x.set(3, 0, v));
        }
    }

    static void promise4_dryOfNoSuchThing() {
        for (int of : new int[] {-1, 3, LEAST_INT, MOST_INT}) {
            refused(fullHands(), "THING " + of, NO_SUCH, x -> x.set(3, of, 1));
        }
        due("of the last", fullHands().set(3, 2, 1), 0);
    }

    static void promise4_stateWhatIsWetUnderThatThing() {
        BothHandsFull x = with(holds(STEP, 0, SILL, 0), 10, 0, 10, 1);
        refused(x, "on the STEP", STATE, y -> y.set(3, 0, 1));
        due("on the SILL", x.set(3, 1, 1), 0);
        due("not to be DRY", x.set(3, 0, 0), 0);
    }

    static void promise4_noneSuchAheadOfState() {
        BothHandsFull x = with(holds(STEP, 0), 90, 0);
        refused(x, "NUMBER -1", NO_SUCH, y -> y.set(2, 0, -1));
        refused(x, "DRY 2 on a STEP", NO_SUCH, y -> y.set(3, 0, 2));
    }

    static void promise4_noSuchWhat() {
        for (int what : new int[] {-1, 4, LEAST_INT, MOST_INT}) {
            refused(fullHands(), "what " + what, NO_SUCH, x -> x.set(what, 0, 1));
        }
    }

    // ---- 5 part

    static void promise5_whatTheyWere() {
        BothHandsFull x = fullHands();
        due("not yet", x.part(0, 1, 1), 0);
        due("they were", x.part(0, 1, 1), 1);
        due("they were, till now", x.part(0, 1, 0), 1);
        due("not any more", x.part(0, 1, 0), 0);
    }

    static void promise5_bothWays() {
        BothHandsFull x = fullHands();
        x.part(2, 0, 1);
        due("of the one", x.told(2, 11), 1);
        due("of the other", x.told(0, 11), 4);
        due("of the third", x.told(1, 11), 0);
        due("asked the other way", x.part(0, 2, 0), 1);
        due("of the one, then", x.told(2, 11), 0);
        due("of the other, then", x.told(0, 11), 0);
    }

    static void promise5_badNoSuchThing() {
        for (int t : new int[] {-1, 3, LEAST_INT, MOST_INT}) {
            refused(fullHands(), "THING " + t, BAD, x -> x.part(t, 0, 1));
            refused(fullHands(), "other " + t, BAD, x -> x.part(0, t, 1));
        }
    }

    static void promise5_badAlikeToo() {
        for (int is = 0; is < 2; is++) {
            int v = is;
            refused(fullHands(), "is " + is, BAD, x -> x.part(2, 2, v));
        }
    }

    static void promise5_badIs() {
        for (int is : new int[] {-1, 2, LEAST_INT, MOST_INT}) {
            refused(fullHands(), "is " + is, BAD, x -> x.part(0, 1, is));
        }
    }

    static void promise5_stateTheyLieInOneHold() {
        BothHandsFull x = with(holds(HOLD, 9, HOLD, 9), 10, 0, 10, 0, 10, 1);
        refused(x, "in one HOLD", STATE, y -> y.part(0, 1, 1));
        refused(x, "the other way", STATE, y -> y.part(1, 0, 1));
        due("in two", x.part(0, 2, 1), 0);
    }

    static void promise5_notToBeApartInOneHold() {
        BothHandsFull x = with(holds(HOLD, 9), 10, 0, 10, 0);
        due(x.part(0, 1, 0), 0);
    }

    static void promise5_badAheadOfState() {
        BothHandsFull x = with(holds(HOLD, 9), 10, 0, 10, 0);
        refused(x, "is 2", BAD, y -> y.part(0, 1, 2));
    }

    static void promise5_theLastTwo() {
        BothHandsFull x = with(holds(HOLD, 9, HOLD, 9), 10, 0, 10, 0, 10, 0, 10, 0, 10, 1);
        due("0 and 4", x.part(4, 0, 1), 0);
        due("3 and 4", x.part(3, 4, 1), 0);
        due("from 4", x.told(4, 11), 9);
    }

    // ---- 6 told

    static void promise6_eachKindOfNumber0() {
        int[][] want = {
            {0, 0, 6, 5, 0, 0, 0, 6}, {1, 0, 3, 3, 0, 1, 0, 3}, {2, 0, 12, 5, 0, 0, 0, 12},
            {3, 0, 1, 1, 0, 0, 0, 1}, {4, 0, 1, 1, 0, 0, 0, 1}, {5, 0, 12, 5, 1, 0, 0, 12},
        };
        toldOfEach(want, 0);
    }

    static void promise6_eachKindOfNumber9() {
        int[][] want = {
            {0, 9, 15, 5, 0, 0, 0, 15}, {1, 9, 12, 3, 0, 1, 0, 12}, {2, 9, 30, 5, 0, 0, 0, 30},
            {3, 9, 6, 1, 0, 0, 0, 6}, {4, 9, 10, 1, 0, 0, 0, 10}, {5, 9, 30, 5, 1, 0, 0, 30},
        };
        toldOfEach(want, 9);
    }

    private static void toldOfEach(int[][] want, int number) {
        for (int kind = 0; kind < 6; kind++) {
            BothHandsFull x = holds(kind, number);
            for (int what = 0; what < 8; what++) {
                due("KIND " + kind + ", what " + what, x.told(0, what), want[kind][what]);
            }
        }
    }

    static void promise6_roomOfAKneeIsCut() {
        int[] want = {1, 2, 2, 3, 3, 4, 4, 5, 5, 6};
        for (int number = 0; number < 10; number++) {
            due("of NUMBER " + number, holds(KNEE, number).told(0, 2), want[number]);
        }
    }

    static void promise6_whatLiesThereByBits() {
        BothHandsFull x = with(holds(HOLD, 9, HOLD, 9, HOLD, 0), 10, 1, 10, 0, 10, 0, 10, 1, 10, 1);
        due("some", x.told(0, 6), 2 + 4);
        due("the first and the last, too", x.told(1, 6), 1 + 8 + 16);
        due("nothing", x.told(2, 6), 0);
        due("all", crowd().told(0, 6), 31);
    }

    static void promise6_roomThatIsLeft() {
        BothHandsFull x = with(holds(HOLD, 9, HAND, 0), 90, 0, 30, 1);
        due("some", x.told(0, 7), 6);
        due("none", x.told(1, 7), 0);
        due("ROOM itself", x.told(0, 2), 15);
    }

    static void promise6_ofAThing() {
        BothHandsFull x = with(holds(HOLD, 9, SILL, 9), 91, 0, 20, 1);
        due("SIZE", x.told(0, 8), 9);
        due("DRY", x.told(0, 9), 1);
        due("its HOLD", x.told(1, 10), 1);
        due("not DRY", x.told(1, 9), 0);
    }

    static void promise6_whoIsApartByBits() {
        BothHandsFull x = with(holds(HOLD, 9, HOLD, 9), 10, 0, 10, 1, 10, 1, 10, 1, 10, 1);
        for (int other = 1; other < 5; other++) {
            x.part(0, other, 1);
        }
        due("from the first", x.told(0, 11), 2 + 4 + 8 + 16);
        due("from the last", x.told(4, 11), 1);
    }

    static void promise6_noSuchHold() {
        for (int of : new int[] {-1, 3, LEAST_INT, MOST_INT}) {
            for (int what = 0; what < 8; what++) {
                due("HOLD " + of + ", what " + what, fullHands().told(of, what), NO_SUCH);
            }
        }
    }

    static void promise6_noSuchThing() {
        BothHandsFull x = with(holds(HOLD, 9, HOLD, 9, HOLD, 9), 10, 0, 10, 0);
        for (int of : new int[] {-1, 2, LEAST_INT, MOST_INT}) {
            for (int what = 8; what < 12; what++) {
                due("THING " + of + ", what " + what, x.told(of, what), NO_SUCH);
            }
        }
        due("a HOLD of that number there is", x.told(2, 0), HOLD);
    }

    static void promise6_aThingWhereThereIsNoSuchHold() {
        BothHandsFull x = with(holds(HOLD, 9), 10, 0, 20, 0);
        due("what 8", x.told(1, 8), 2);
        due("what 7", x.told(1, 7), NO_SUCH);
    }

    static void promise6_noSuchWhat() {
        for (int what : new int[] {-1, 12, LEAST_INT, MOST_INT}) {
            due("what " + what, crowd().told(0, what), NO_SUCH);
        }
    }
}
