/** Promises 14 to 18: FEWEST and LEAST, PACK, RING, LEAVE, ROOMY. */
public final class HowBestTest extends Checks {
    public static void main(String[] args) {
        run(HowBestTest.class, 14, 18);
    }

    private static BothHandsFull fullHandsBy(String text) {
        BothHandsFull x = fullHands();
        rule(x, text);
        return x;
    }

    /** THE KEY is in a HAND, and the other HAND is free. */
    private static BothHandsFull opened() {
        BothHandsFull x = fullHands();
        x.move(1, 2);
        x.move(2, 2);
        x.move(0, 1);
        return x;
    }

    /** Two HANDS that are full, THE KEY (2) in one of them: nothing can be moved. */
    private static BothHandsFull stuck() {
        BothHandsFull x = with(holds(HAND, 0, HAND, 0), 30, 0, 20, 1, 10, 1);
        x.set(1, 0, 2);
        return x;
    }

    // ---- 14 best

    static void promise14_fewestAndFirst() {
        due("FEWEST", fullHands().best(0), 3);
        due("FIRST", fullHands().best(1), 12);
    }

    static void promise14_leastAndCheap() {
        due("LEAST", fullHands().best(2), 7);
        due("CHEAP", fullHands().best(3), 12);
    }

    static void promise14_reachedAndFarthest() {
        due("REACHED", fullHands().best(4), 13);
        due("FARTHEST", fullHands().best(5), 3);
    }

    static void promise14_itIsOpen() {
        BothHandsFull x = opened();
        due("FEWEST", x.best(0), 0);
        due("no FIRST", x.best(1), NONE);
        due("LEAST", x.best(2), 0);
        due("no CHEAP", x.best(3), NONE);
        due("REACHED all the same", x.best(4), 13);
        due("FARTHEST all the same", x.best(5), 3);
    }

    static void promise14_openWhereMovesCostNothing() {
        BothHandsFull x = opened();
        rule(x, "costs 0;bell 1;worth 1;");
        due("LEAST", x.best(2), 0);
        due("no CHEAP", x.best(3), NONE);
    }

    static void promise14_noneDo() {
        BothHandsFull x = fullHands();
        x.set(0, 0, 2);
        due("FEWEST", x.best(0), NONE);
        due("FIRST", x.best(1), NONE);
        due("LEAST", x.best(2), NONE);
        due("CHEAP", x.best(3), NONE);
        due("REACHED", x.best(4), 13);
        due("FARTHEST", x.best(5), NONE);
    }

    static void promise14_noMoveCanBe() {
        BothHandsFull x = stuck();
        due("FEWEST", x.best(0), NONE);
        due("FIRST", x.best(1), NONE);
        due("LEAST", x.best(2), NONE);
        due("CHEAP", x.best(3), NONE);
        due("REACHED: that of now", x.best(4), 1);
        due("FARTHEST", x.best(5), NONE);
        x.set(0, 0, 0);
        due("OPEN: FEWEST", x.best(0), 0);
        due("OPEN: FARTHEST", x.best(5), 0);
    }

    static void promise14_noKey() {
        BothHandsFull x = fullHands();
        x.set(1, 0, NONE);
        int[] want = {NONE, NONE, NONE, NONE, 13, NONE};
        for (int what = 0; what < 6; what++) {
            due("what " + what, x.best(what), want[what]);
        }
    }

    static void promise14_nothingAtAll() {
        int[] want = {NONE, NONE, NONE, NONE, 1, NONE};
        for (int what = 0; what < 6; what++) {
            due("no HOLD, what " + what, new BothHandsFull().best(what), want[what]);
            due("no THING, what " + what, holds(HAND, 0, HAND, 0).best(what), want[what]);
        }
    }

    static void promise14_all3125States() {
        due("REACHED", crowd().best(4), 3125);
    }

    static void promise14_theFirstOfLikeHolds() {
        BothHandsFull x = with(holds(SILL, 0, HAND, 0, HAND, 0, HAND, 0), 10, 0, 10, 0);
        x.set(1, 0, 1);
        due("FIRST", x.best(1), 11);
        due("CHEAP", x.best(3), 11);
        x.thing(10, 1);
        due("FIRST by one that is used", x.best(1), 11);
        x.set(0, 0, 2);
        due("FIRST, so that two are free", x.best(1), 11);
        x.part(1, 2, 1);
        due("FIRST, where it can't lie there", x.best(1), 12);
    }

    static void promise14_theFirstOfLikeThings() {
        BothHandsFull x = with(holds(HAND, 0, HAND, 0, SILL, 9), 30, 1, 30, 0, 10, 2);
        x.set(1, 0, 2);
        due("FIRST", x.best(1), 2);
        due("CHEAP", x.best(3), 2);
    }

    static void promise14_theLastThingToTheLastHold() {
        BothHandsFull x = with(holds(HOLD, 0, HOLD, 0, HOLD, 0, HOLD, 0, HAND, 0), 10, 0, 10, 0, 10, 0, 10, 0, 10, 0);
        x.set(1, 0, 4);
        x.set(0, 0, 0);
        due("FEWEST", x.best(0), 1);
        due("FIRST", x.best(1), 44);
        due("LEAST", x.best(2), 1);
        due("CHEAP", x.best(3), 44);
    }

    static void promise14_leastByALongerWay() {
        BothHandsFull x = with(holds(SILL, 0, HAND, 0, HOLD, 0), 10, 0);
        x.set(1, 0, 0);
        x.set(0, 0, 0);
        rule(x, "costs 2+97*(from=0 and to=1);bell 3;worth 1;");
        due("FEWEST", x.best(0), 1);
        due("FIRST", x.best(1), 1);
        due("LEAST", x.best(2), 4);
        due("CHEAP", x.best(3), 2);
    }

    static void promise14_leastAsDearByAShortWay() {
        BothHandsFull x = with(holds(SILL, 0, HAND, 0, HOLD, 0), 10, 0);
        x.set(1, 0, 0);
        x.set(0, 0, 0);
        rule(x, "costs 2+2*(from=0 and to=1);bell 3;worth 1;");
        due("LEAST", x.best(2), 4);
        due("CHEAP: the least of both", x.best(3), 1);
    }

    static void promise14_whatMustBeDryGoesAnotherWay() {
        BothHandsFull x = with(holds(STEP, 9, HAND, 0, HAND, 0, NAIL, 9), 10, 1, 30, 2);
        x.set(1, 0, 0);
        due("FIRST", x.best(1), 10);
        x.set(3, 1, 1);
        due("FIRST, if it is DRY", x.best(1), 13);
        x.set(2, 3, 1);
        due("without ROOM there", x.best(0), NONE);
    }

    static void promise14_whatMustBeApart() {
        BothHandsFull x = with(holds(HAND, 9, HAND, 9), 10, 0, 10, 1);
        x.set(1, 0, 0);
        due("FEWEST", x.best(0), 1);
        due("REACHED", x.best(4), 4);
        x.part(0, 1, 1);
        due("FEWEST, if they are", x.best(0), NONE);
        due("REACHED, if they are", x.best(4), 1);
    }

    static void promise14_noMoreThanMost() {
        BothHandsFull x = with(holds(HAND, 9, HAND, 9), 10, 0, 10, 0, 10, 1);
        x.set(1, 0, 0);
        due("three in one HAND", x.best(0), 1);
        x.thing(10, 0);
        due("not four", x.best(0), NONE);
    }

    static void promise14_byNumbersAsTheyAreNow() {
        BothHandsFull x = fullHands();
        x.set(2, 1, 1);
        due("FEWEST", x.best(0), 2);
        due("LEAST", x.best(2), 5);
        x.set(2, 1, 0);
        due("FEWEST again", x.best(0), 3);
    }

    static void promise14_byFreeAndTheKeyAsTheyAreNow() {
        BothHandsFull x = fullHands();
        x.set(0, 0, 0);
        due("no HAND need be free", x.best(0), 2);
        x.set(1, 0, 1);
        due("THE KEY is in a HAND", x.best(0), 0);
        x.set(0, 0, 1);
        due("the other is to be free", x.best(0), 1);
    }

    static void promise14_movesThatCostNothing() {
        BothHandsFull x = fullHandsBy("costs 0;bell 1;worth 1;");
        due("LEAST", x.best(2), 0);
        due("CHEAP", x.best(3), 12);
        due("FEWEST all the same", x.best(0), 3);
    }

    static void promise14_movesThatCostMost() {
        BothHandsFull x = fullHandsBy("costs 9999;bell 1;worth 1;");
        due("LEAST", x.best(2), 297);
        due("CHEAP", x.best(3), 12);
    }

    static void promise14_someMovesCostNothingOthersMost() {
        BothHandsFull x = fullHandsBy("costs 99*(thing=0);bell 1;worth 1;");
        due("LEAST", x.best(2), 99);
        due("CHEAP", x.best(3), 12);
        x.move(1, 2);
        due("CHEAP: THE KEY first, for the rest costs nothing", x.best(3), 0);
    }

    /** If what is large in both HOLDS could change places, THE KEY could lie beside it. */
    static void promise14_farthestOfThoseReachedAlone() {
        BothHandsFull x = with(holds(HOLD, 1, HAND, 0, HOLD, 0), 20, 1, 60, 0, 50, 2);
        x.set(1, 0, 0);
        x.set(0, 0, 0);
        due("REACHED", x.best(4), 1);
        due("FARTHEST", x.best(5), 0);
        BothHandsFull y = with(holds(HOLD, 1, HAND, 0, HOLD, 0), 20, 1, 60, 2, 50, 0);
        y.set(1, 0, 0);
        y.set(0, 0, 0);
        due("REACHED, had they", y.best(4), 2);
        due("FARTHEST, had they", y.best(5), 1);
    }

    static void promise14_allIsInThought() {
        BothHandsFull x = fullHands();
        for (int what = 0; what < 6; what++) {
            int w = what;
            refused(x, "what " + what, new int[] {3, 12, 7, 12, 13, 3}[what], y -> y.best(w));
        }
    }

    /** So narrow that one way is left, there and back (found by search, counted by another program). */
    static void promise14_aLongWay() {
        BothHandsFull x = with(holds(STEP, 4, HAND, 3, SILL, 2, NAIL, 0, HAND, 7), 80, 0, 61, 4, 70, 2, 21, 2, 31, 1);
        int[][] apart = {{2, 0}, {2, 1}, {3, 1}, {4, 0}, {4, 3}};
        for (int[] two : apart) {
            x.part(two[0], two[1], 1);
        }
        x.set(1, 0, 0);
        rule(x, "costs 99;bell 1682;worth 999;");
        due("FEWEST", x.best(0), 17);
        due("FIRST", x.best(1), 44);
        due("LEAST", x.best(2), 1683);
        due("CHEAP", x.best(3), 44);
        due("REACHED", x.best(4), 26);
        due("FARTHEST", x.best(5), 18);
        due("RING", x.ring(0), 1);
        due("costs", x.ring(1), 1682);
    }

    static void promise14_eachForItselfWhateverWasAskedAhead() {
        for (int ahead = 0; ahead < 6; ahead++) {
            for (int what = 0; what < 6; what++) {
                BothHandsFull x = roundabout();
                x.best(ahead);
                due(what + " behind " + ahead, x.best(what), new int[] {1, 1, 4, 2, 27, 1}[what]);
                due("FEWEST by PACK behind " + what, x.pack(0, 1), 0);
                due("RING behind " + what, x.ring(1), 3);
            }
        }
    }

    /** THE KEY is cheaper by way of the HOLD (2); all THINGS may lie in the SILL (0). */
    private static BothHandsFull roundabout() {
        BothHandsFull x = with(holds(SILL, 0, HAND, 9, HOLD, 9), 10, 0, 10, 2, 10, 2);
        x.set(1, 0, 0);
        x.set(0, 0, 0);
        rule(x, "costs 2+97*(from=0 and to=1);bell 3;worth 1;");
        return x;
    }

    static void promise14_noSuchWhat() {
        for (int what : new int[] {-1, 6, LEAST_INT, MOST_INT}) {
            due("what " + what, fullHands().best(what), NO_SUCH);
            due("what " + what + " of nothing", new BothHandsFull().best(what), NO_SUCH);
        }
    }

    // ---- 15 pack

    static void promise15_theHoldAndFewestThen() {
        BothHandsFull x = fullHands();
        due("the bag", x.pack(1, 0), 2);
        due("FEWEST then", x.pack(1, 1), 2);
        due("the box", x.pack(2, 0), 2);
        due("FEWEST then", x.pack(2, 1), 2);
    }

    static void promise15_theHoldInWhichItLiesToo() {
        BothHandsFull x = fullHands();
        due("no other is left", x.pack(0, 0), 2);
        due("FEWEST then", x.pack(0, 1), 3);
    }

    static void promise15_whereItMayNotLieDoesNotCount() {
        BothHandsFull x = with(holds(HAND, 0, HAND, 0, SILL, 9), 40, 2, 10, 2, 30, 0);
        x.set(1, 0, 0);
        due("too large for a HAND", x.pack(0, 0), NONE);
        BothHandsFull y = with(holds(STEP, 9, HAND, 0, SILL, 9, HAND, 0), 11, 2, 10, 1, 30, 3);
        y.set(1, 0, 1);
        due("not on a STEP", y.pack(0, 0), 1);
        y.set(3, 0, 0);
        due("on a STEP", y.pack(0, 0), 0);
    }

    static void promise15_ofLikeOnesTheFirst() {
        BothHandsFull x = stuck();
        x.set(0, 0, 0);
        due("as it lies", x.pack(0, 0), 0);
        due("the HOLD", x.pack(2, 0), 1);
        BothHandsFull y = with(holds(SILL, 9, HAND, 9, HAND, 9), 10, 2);
        y.set(1, 0, 0);
        due("before that in which it lies", y.pack(0, 0), 1);
        due("FEWEST then", y.pack(0, 1), 0);
        y.move(0, 0);
        due("before the other", y.pack(0, 0), 1);
    }

    static void promise15_noHoldBehindTheLast() {
        BothHandsFull x = with(holds(HAND, 0, HAND, 0, SILL, 0), 10, 2, 30, 1);
        x.set(1, 0, 0);
        due("the HOLD", x.pack(0, 0), 0);
        due("FEWEST then", x.pack(0, 1), 1);
    }

    static void promise15_noneWhereItCantBe() {
        BothHandsFull x = stuck();
        due("the HOLD", x.pack(0, 0), NONE);
        due("FEWEST", x.pack(0, 1), NONE);
        BothHandsFull y = fullHands();
        y.set(1, 0, NONE);
        due("no KEY: the HOLD", y.pack(0, 0), NONE);
        due("no KEY: FEWEST", y.pack(0, 1), NONE);
    }

    static void promise15_fewestThenMayBe0() {
        BothHandsFull x = opened();
        due("the HOLD", x.pack(0, 0), 0);
        due("FEWEST", x.pack(0, 1), 0);
    }

    static void promise15_allIsInThought() {
        refused(fullHands(), "the HOLD", 2, x -> x.pack(1, 0));
        refused(fullHands(), "FEWEST", 2, x -> x.pack(1, 1));
    }

    static void promise15_badNoSuchThing() {
        for (int t : new int[] {-1, 3, LEAST_INT, MOST_INT}) {
            due("THING " + t, fullHands().pack(t, 0), BAD);
        }
        due("nothing", new BothHandsFull().pack(0, 0), BAD);
    }

    static void promise15_badWhat() {
        for (int what : new int[] {-1, 2, LEAST_INT, MOST_INT}) {
            due("what " + what, fullHands().pack(0, what), BAD);
        }
    }

    // ---- 16 ring

    static void promise16_bellAsMuchAsLeastIsNotLess() {
        BothHandsFull x = fullHandsBy("costs size;bell 7;worth 1;");
        due("RING", x.ring(0), 0);
        due("costs", x.ring(1), 7);
    }

    static void promise16_bell1LessThanLeast() {
        BothHandsFull x = fullHandsBy("costs size;bell 6;worth 1;");
        due("RING", x.ring(0), 1);
        due("costs", x.ring(1), 6);
    }

    static void promise16_bell1MoreThanLeast() {
        BothHandsFull x = fullHandsBy("costs size;bell 8;worth 1;");
        due("RING", x.ring(0), 0);
        due("costs", x.ring(1), 7);
    }

    static void promise16_leastIsNone() {
        BothHandsFull x = stuck();
        due("RING", x.ring(0), 1);
        due("costs", x.ring(1), 20);
        rule(x, "costs 0;bell 9999;worth 1;");
        due("RING, however dear", x.ring(0), 1);
        due("costs", x.ring(1), 9999);
        rule(x, "costs 0;bell 0;worth 1;");
        due("RING for nothing", x.ring(0), 1);
        due("costs", x.ring(1), 0);
    }

    static void promise16_nothingAtAll() {
        due("RING", new BothHandsFull().ring(0), 1);
        due("costs", new BothHandsFull().ring(1), 20);
    }

    static void promise16_itIsOpen() {
        BothHandsFull x = opened();
        due("RING", x.ring(0), 0);
        due("costs", x.ring(1), 0);
        rule(x, "costs 0;bell 0;worth 1;");
        due("RING for nothing", x.ring(0), 0);
    }

    static void promise16_bellKnowsHowMany() {
        BothHandsFull x = fullHandsBy("costs size;bell many+2;worth 1;");
        due("RING", x.ring(0), 1);
        due("costs", x.ring(1), 5);
    }

    static void promise16_badWhat() {
        for (int what : new int[] {-1, 2, LEAST_INT, MOST_INT}) {
            due("what " + what, fullHands().ring(what), BAD);
        }
    }

    // ---- 17 leave

    // In fullHands() LEAST is 7; without the bag (1) it is 4, without the box (2) 5.

    static void promise17_togetherAsMuchIsNotLess() {
        due(fullHandsBy("costs size;bell 1;worth size;").leave(), NONE);
    }

    static void promise17_together1Less() {
        due("the bag", fullHandsBy("costs size;bell 1;worth size-(thing=1);").leave(), 1);
        due("the box", fullHandsBy("costs size;bell 1;worth size-(thing=2);").leave(), 2);
    }

    static void promise17_theLeastOfThem() {
        due("the bag", fullHandsBy("costs size;bell 1;worth 0;").leave(), 1);
        due("the box", fullHandsBy("costs size;bell 1;worth 2*(thing=1);").leave(), 2);
    }

    static void promise17_ofLikeOnesTheFirst() {
        due(fullHandsBy("costs size;bell 1;worth thing=1;").leave(), 1);
        BothHandsFull x = with(holds(HAND, 0, SILL, 9, HAND, 0), 10, 1, 30, 2, 10, 1, 30, 0);
        x.set(1, 0, 0);
        rule(x, "costs size;bell 1;worth 1;");
        due("LEAST", x.best(2), 7);
        due("both bags are alike", x.leave(), 1);
    }

    static void promise17_worthKnowsWhereItLies() {
        due(fullHandsBy("costs size;bell 1;worth 3*(thing=1)+from;").leave(), 2);
    }

    static void promise17_notTheKey() {
        BothHandsFull x = fullHandsBy("costs size;bell 1;worth 900*(not thing=0);");
        due("it alone is worth nothing", x.leave(), NONE);
    }

    static void promise17_noneIsMoreThanAny() {
        BothHandsFull x = stuck();
        due("LEAST as it is", x.best(2), NONE);
        due("the bag", x.leave(), 0);
        rule(x, "costs 99;bell 1;worth 9999;");
        due("the bag, however dear", x.leave(), 0);
    }

    static void promise17_oneByWhichLeastWouldBeNoneIsNone() {
        BothHandsFull x = stuck();
        rule(x, "costs size;bell 1;worth 900*(thing=0);");
        due("not the other, that is worth nothing", x.leave(), 0);
        x.set(0, 0, 2);
        due("by none of them", x.leave(), NONE);
    }

    static void promise17_itIsOpen() {
        BothHandsFull x = opened();
        rule(x, "costs 0;bell 1;worth 0;");
        due(x.leave(), NONE);
    }

    static void promise17_noKeyOrNothing() {
        BothHandsFull x = fullHands();
        x.set(1, 0, NONE);
        due("no KEY", x.leave(), NONE);
        due("nothing", new BothHandsFull().leave(), NONE);
        BothHandsFull y = with(holds(HAND, 9, SILL, 9), 10, 1);
        y.set(1, 0, 0);
        due("but THE KEY nothing", y.leave(), NONE);
    }

    static void promise17_theLastOfFive() {
        BothHandsFull x = with(holds(HAND, 9, HAND, 0, SILL, 9), 10, 2, 10, 2, 10, 2, 10, 2, 30, 1);
        x.set(1, 0, 0);
        x.set(0, 0, 1);
        rule(x, "costs size;bell 1;worth 0;");
        due("LEAST", x.best(2), 4);
        due("what fills the HAND", x.leave(), 4);
    }

    static void promise17_whatIsNowhereNeedsNoRoomAndNoHand() {
        BothHandsFull x = with(holds(HAND, 0, HAND, 0), 30, 0, 30, 1);
        x.set(1, 0, 0);
        due(x.leave(), 1);
    }

    static void promise17_whatIsNowhereIsNoMoreApart() {
        BothHandsFull x = with(holds(HAND, 0, SILL, 0), 10, 1, 10, 0);
        x.set(1, 0, 0);
        x.set(0, 0, 0);
        rule(x, "costs 10;bell 1;worth 5;");
        due("LEAST beside it", x.best(2), 10);
        x.part(0, 1, 1);
        due("LEAST by way of nowhere", x.best(2), NONE);
        due("it", x.leave(), 1);
    }

    static void promise17_itIsStillOneOfMany() {
        BothHandsFull x = fullHandsBy("costs 1+many;bell 1;worth 4;");
        due("LEAST, 3 MOVES of 4", x.best(2), 12);
        due("2 MOVES of 4, and 4", x.leave(), NONE);
        rule(x, "costs 1+many;bell 1;worth 3;");
        due("2 MOVES of 4, and 3", x.leave(), 1);
    }

    static void promise17_allIsInThought() {
        refused(fullHandsBy("costs size;bell 1;worth 0;"), "leave", 1, BothHandsFull::leave);
    }

    // ---- 18 roomy

    static void promise18_theHoldAndLeastThen() {
        BothHandsFull x = fullHands();
        due("THE KEY beside the box", x.roomy(0), 1);
        due("LEAST then", x.roomy(1), 5);
    }

    static void promise18_but1RoomMore() {
        BothHandsFull x = with(holds(HAND, 0, HAND, 0, SILL, 0), 20, 2, 30, 0, 30, 1);
        x.set(1, 0, 0);
        due("LEAST", x.best(2), 8);
        due("2 would be needed", x.roomy(0), NONE);
        due("2 would be needed: LEAST", x.roomy(1), NONE);
    }

    static void promise18_asMuchIsNotLess() {
        BothHandsFull x = with(holds(HAND, 9, SILL, 9), 10, 1);
        x.set(1, 0, 0);
        x.set(0, 0, 0);
        due("the HOLD", x.roomy(0), NONE);
        due("LEAST then", x.roomy(1), NONE);
    }

    static void promise18_noneIsMoreThanAny() {
        BothHandsFull x = with(holds(HAND, 0, HAND, 0), 20, 0, 20, 1);
        x.set(1, 0, 1);
        due("LEAST as it is", x.best(2), NONE);
        due("both in one HAND", x.roomy(1), 2);
    }

    static void promise18_ofLikeOnesTheFirst() {
        BothHandsFull x = with(holds(HAND, 0, HAND, 0), 20, 0, 20, 1);
        x.set(1, 0, 1);
        due("either HAND", x.roomy(0), 0);
    }

    static void promise18_theLeastOfThem() {
        BothHandsFull x = with(holds(HAND, 0, HAND, 0), 30, 0, 10, 1, 10, 1);
        x.set(1, 0, 0);
        due("LEAST as it is", x.best(2), NONE);
        due("THE KEY of 3 beside them can't be", x.roomy(0), NONE);
        BothHandsFull y = with(holds(HAND, 0, HAND, 0), 10, 0, 30, 1);
        y.set(1, 0, 0);
        due("the bag to THE KEY, or THE KEY to the bag", y.roomy(1), 1);
        due("the cheaper of both", y.roomy(0), 1);
    }

    static void promise18_noneWhereItCantBe() {
        BothHandsFull x = fullHands();
        x.set(0, 0, 3);
        due("the HOLD", x.roomy(0), NONE);
        due("LEAST then", x.roomy(1), NONE);
    }

    static void promise18_itIsOpen() {
        due("the HOLD", opened().roomy(0), NONE);
        due("LEAST then", opened().roomy(1), NONE);
    }

    static void promise18_nothingAtAll() {
        due("the HOLD", new BothHandsFull().roomy(0), NONE);
        due("LEAST then", new BothHandsFull().roomy(1), NONE);
    }

    static void promise18_mostStaysAsItIs() {
        BothHandsFull x = with(holds(HAND, 0, HAND, 0, NAIL, 2), 30, 0, 30, 1, 10, 2);
        x.set(1, 0, 0);
        due("LEAST as it is", x.best(2), NONE);
        due("not the NAIL, which takes but one", x.roomy(0), 0);
        due("LEAST then", x.roomy(1), 4);
    }

    static void promise18_allIsInThought() {
        refused(fullHands(), "the HOLD", 1, x -> x.roomy(0));
        refused(fullHands(), "LEAST", 5, x -> x.roomy(1));
        BothHandsFull x = fullHands();
        x.roomy(0);
        due("LEAST as it is", x.best(2), 7);
        due("ROOM as it is", x.told(1, 2), 3);
    }

    static void promise18_badWhat() {
        for (int what : new int[] {-1, 2, LEAST_INT, MOST_INT}) {
            due("what " + what, fullHands().roomy(what), BAD);
        }
    }
}
