/** Promises 19 to 26: told MOVES, WAYS, drawn MOVES, THE IMAGE, what is counted. */
public final class ToldMovesTest extends Checks {
    public static void main(String[] args) {
        run(ToldMovesTest.class, 19, 26);
    }

    /** THE KEY on a HOLD (0) beside a HAND (1) and a SILL (2); no other HAND need be free. */
    private static BothHandsFull oneHand() {
        BothHandsFull x = with(holds(HOLD, 0, HAND, 0, SILL, 0), 10, 0);
        x.set(1, 0, 0);
        x.set(0, 0, 0);
        return x;
    }

    /** One THING in the first of three like HOLDS. */
    private static BothHandsFull ring() {
        return with(holds(HOLD, 0, HOLD, 0, HOLD, 0), 10, 0);
    }

    // ---- 19 judge

    private static void judged(int[] cells, int first, int cost, int open) {
        BothHandsFull x = fullHands();
        for (int sort = 1; sort < 3; sort++) {
            row(x, 1, sort, cells);
            due("the first", x.judge(1, 0), first);
            due("cost", x.judge(1, 1), cost);
            due("OPEN", x.judge(1, 2), open);
        }
    }

    static void promise19_allCanBe() {
        judged(new int[] {12, 22, 0}, NONE, 7, 1);
        judged(new int[] {12, 22, 1, 2}, NONE, 9, 0);
    }

    static void promise19_theFirstThatCantBe() {
        judged(new int[] {10}, 0, 0, 0);
        judged(new int[] {12, 10, 10}, 2, 6, 0);
        judged(new int[] {12, 22, 0, 0, 12}, 3, 7, 1);
        judged(new int[] {0, 12, 22, 0}, 0, 0, 0);
    }

    static void promise19_itCostsByWhereItLiesThen() {
        BothHandsFull x = ring();
        rule(x, "costs 10*from+to;bell 1;worth 1;");
        row(x, 0, 0, 1, 2, 0);
        due("0 to 1, 1 to 2, 2 to 0", x.judge(0, 1), 1 + 12 + 20);
    }

    static void promise19_noMovesToldAtAll() {
        judged(new int[0], NONE, 0, 0);
        BothHandsFull x = oneHand();
        x.move(0, 1);
        x.sheet(0, 0, 0);
        due("OPEN as it is", x.judge(0, 2), 1);
    }

    static void promise19_noSuchThing() {
        judged(new int[] {12, 30}, 1, 3, 0);
        judged(new int[] {50}, 0, 0, 0);
        judged(new int[] {100}, 0, 0, 0);
    }

    static void promise19_noSuchHold() {
        judged(new int[] {12, 23}, 1, 3, 0);
        judged(new int[] {12, 29}, 1, 3, 0);
        judged(new int[] {3}, 0, 0, 0);
    }

    static void promise19_below0() {
        judged(new int[] {-1}, 0, 0, 0);
        judged(new int[] {12, -12}, 1, 3, 0);
        judged(new int[] {-10}, 0, 0, 0);
        BothHandsFull x = fullHands();
        for (int v : new int[] {LEAST_INT, MOST_INT}) {
            row(x, 0, 2, v);
            due("far outside", x.judge(0, 0), 0);
        }
    }

    static void promise19_theLastThingToTheLastHold() {
        BothHandsFull x = crowd();
        row(x, 0, 0, 44, 40, 4);
        due("44 and back", x.judge(0, 0), NONE);
    }

    static void promise19_40Moves() {
        BothHandsFull x = ring();
        rule(x, "costs 99;bell 1;worth 1;");
        x.sheet(0, 0, 40);
        for (int i = 0; i < 40; i++) {
            x.cell(0, i, (i + 1) % 3);
        }
        due("all can be", x.judge(0, 0), NONE);
        due("they cost", x.judge(0, 1), 3960);
        x.cell(0, 39, 0);
        due("the last can't", x.judge(0, 0), 39);
        due("those ahead cost", x.judge(0, 1), 3861);
    }

    static void promise19_nothingAtAll() {
        BothHandsFull x = new BothHandsFull();
        row(x, 0, 0, 0);
        due("the first", x.judge(0, 0), 0);
        due("cost", x.judge(0, 1), 0);
        due("OPEN", x.judge(0, 2), 0);
    }

    static void promise19_allIsInThought() {
        BothHandsFull x = fullHands();
        row(x, 0, 0, 12, 22, 0);
        for (int what = 0; what < 3; what++) {
            int w = what;
            refused(x, "what " + what, new int[] {NONE, 7, 1}[what], y -> y.judge(0, w));
        }
    }

    static void promise19_badNoSuchSheet() {
        for (int s : new int[] {-1, 4, LEAST_INT, MOST_INT}) {
            due("SHEET " + s, fullHands().judge(s, 0), BAD);
        }
        BothHandsFull x = fullHands();
        x.sheet(3, 0, 0);
        due("the last", x.judge(3, 0), NONE);
    }

    static void promise19_badWhat() {
        for (int what : new int[] {-1, 3, LEAST_INT, MOST_INT}) {
            BothHandsFull x = fullHands();
            row(x, 0, 0, 12);
            due("what " + what, x.judge(0, what), BAD);
            due("what " + what + " ahead of what is missing", x.judge(1, what), BAD);
        }
    }

    static void promise19_itIsMissing() {
        for (int what = 0; what < 3; what++) {
            due("what " + what, fullHands().judge(0, what), NOTHING);
        }
    }

    // ---- 20 ways

    static void promise20_rowsThatComeBack() {
        long[] want = {1, 0, 2, 2, 6, 10, 22, 42, 86};
        BothHandsFull x = ring();
        row(x, 0, 0, 0);
        for (int n = 0; n <= 8; n++) {
            due("of " + n, x.ways(0, n), want[n]);
        }
    }

    static void promise20_rowsThatLeadAway() {
        long[] want = {0, 1, 1, 3, 5, 11, 21, 43, 85};
        BothHandsFull x = ring();
        row(x, 0, 2, 2);
        for (int n = 0; n <= 8; n++) {
            due("of " + n, x.ways(0, n), want[n]);
        }
    }

    /** Of 5 THINGS that each go in a ring of 5: closed walks, by the spectrum of that graph. */
    static void promise20_moreThanAnIntHolds() {
        BothHandsFull x = crowd();
        row(x, 0, 0, 0, 0, 0, 0, 0);
        long rows = 0;
        long[] choose = {1, 5, 10, 10, 5, 1};
        long[] eachOf = {1, 4, 16, 64, 256, 1024};
        for (int k = 0; k <= 5; k++) {
            long by = 1;
            for (int i = 0; i < 8; i++) {
                by *= 20 - 5 * k;
            }
            rows += choose[k] * eachOf[k] * by;
        }
        due(x.ways(0, 8), rows / 3125);
    }

    static void promise20_n0IsAsItIs() {
        BothHandsFull x = fullHands();
        row(x, 0, 0, 2, 0, 1);
        row(x, 1, 0, 2, 1, 0);
        due("so", x.ways(0, 0), 1);
        due("otherwise", x.ways(1, 0), 0);
    }

    static void promise20_nOutside() {
        BothHandsFull x = ring();
        row(x, 0, 0, 0);
        for (int n : new int[] {-1, 9, LEAST_INT, MOST_INT}) {
            due("n " + n, x.ways(0, n), NO);
        }
    }

    static void promise20_noSuchSheet() {
        for (int s : new int[] {-1, 4, LEAST_INT, MOST_INT}) {
            due("SHEET " + s, ring().ways(s, 1), NO);
        }
        BothHandsFull x = ring();
        row(x, 3, 0, 0);
        due("the last", x.ways(3, 0), 1);
    }

    static void promise20_itIsMissing() {
        due("with a THING", ring().ways(0, 1), NO);
        due("without any", new BothHandsFull().ways(0, 0), NO);
    }

    static void promise20_itsSizeIsntHowManyThingsThereAre() {
        BothHandsFull x = ring();
        x.sheet(0, 0, 2);
        due("1 more", x.ways(0, 0), NO);
        x.sheet(0, 0, 0);
        due("1 less", x.ways(0, 0), NO);
        x.sheet(0, 0, 40);
        due("many more", x.ways(0, 0), NO);
    }

    static void promise20_noSuchHold() {
        BothHandsFull x = ring();
        for (int v : new int[] {-1, 3, 5, LEAST_INT, MOST_INT}) {
            row(x, 0, 2, v);
            for (int n = 0; n < 3; n++) {
                due("HOLD " + v, x.ways(0, n), 0);
            }
        }
    }

    static void promise20_aHoldThatIsAnotherThingsByCarry() {
        BothHandsFull x = with(holds(HOLD, 9, HOLD, 9), 10, 0, 10, 1);
        row(x, 0, 2, 2, 0);
        due("2 and 0 are not 0 and 1", x.ways(0, 0), 0);
        row(x, 0, 2, -2, 2);
        due("-2 and 2 are not 0 and 1", x.ways(0, 0), 0);
        row(x, 0, 2, 0, 1);
        due("0 and 1 are", x.ways(0, 0), 1);
    }

    static void promise20_theyMayNotLieSo() {
        BothHandsFull x = with(holds(HAND, 0, HAND, 0, STEP, 9), 20, 0, 21, 1);
        row(x, 0, 0, 0, 0);
        due("ROOM", x.ways(0, 1), 0);
        row(x, 0, 0, 0, 2);
        due("WET", x.ways(0, 1), 0);
        row(x, 0, 0, 2, 1);
        due("so they may", x.ways(0, 1), 1);
    }

    static void promise20_noThings() {
        BothHandsFull x = new BothHandsFull();
        x.sheet(0, 0, 0);
        due("of 0", x.ways(0, 0), 1);
        due("of 1", x.ways(0, 1), 0);
        due("of 8", x.ways(0, 8), 0);
        x.sheet(0, 0, 1);
        due("another size", x.ways(0, 0), NO);
    }

    static void promise20_allIsInThought() {
        BothHandsFull x = fullHands();
        row(x, 0, 0, 0, 2, 2);
        refused(x, "ways", 3, y -> y.ways(0, 3));
    }

    // ---- 21 soonest

    static void promise21_theLeastN() {
        BothHandsFull x = fullHands();
        row(x, 0, 0, 0, 2, 2);
        due("by 3", x.soonest(0), 3);
        row(x, 0, 0, 2, 2, 1);
        due("by 1", x.soonest(0), 1);
        row(x, 0, 0, 2, 1, 0);
        due("they change HANDS", x.soonest(0), 3);
    }

    static void promise21_0AsItIs() {
        BothHandsFull x = fullHands();
        row(x, 0, 0, 2, 0, 1);
        due("so", x.soonest(0), 0);
        BothHandsFull y = new BothHandsFull();
        y.sheet(0, 0, 0);
        due("nothing", y.soonest(0), 0);
    }

    /** So narrow that two THINGS change places only behind 8 MOVES, and 9 from beside. */
    private static BothHandsFull narrow() {
        BothHandsFull x = with(holds(HAND, 3, HOLD, 2, HOLD, 3), 60, 2, 40, 1, 40, 0, 20, 2);
        row(x, 0, 0, 1, 2, 0, 2);
        return x;
    }

    static void promise21_8AtMost() {
        BothHandsFull x = narrow();
        due("by 8", x.soonest(0), 8);
        due("WAYS of 7", x.ways(0, 7), 0);
        due("WAYS of 8", x.ways(0, 8), 2);
    }

    static void promise21_9AreNone() {
        BothHandsFull x = narrow();
        due("away", x.move(3, 0), 2);
        due("by more than 8", x.soonest(0), NONE);
        due("WAYS of 8", x.ways(0, 8), 0);
    }

    static void promise21_noneAtAll() {
        BothHandsFull x = with(holds(HAND, 0, HAND, 0), 30, 0, 30, 1);
        row(x, 0, 0, 1, 0);
        due("they can't change", x.soonest(0), NONE);
        row(x, 0, 0, 0, 0);
        due("they may not lie so", x.soonest(0), NONE);
    }

    static void promise21_noSuchHold() {
        BothHandsFull x = ring();
        for (int v : new int[] {-1, 3, LEAST_INT, MOST_INT}) {
            row(x, 0, 2, v);
            due("HOLD " + v, x.soonest(0), NONE);
        }
        row(x, 0, 2, 2);
        due("the last HOLD", x.soonest(0), 1);
    }

    static void promise21_badNoSuchSheet() {
        for (int s : new int[] {-1, 4, LEAST_INT, MOST_INT}) {
            due("SHEET " + s, ring().soonest(s), BAD);
        }
    }

    static void promise21_itIsMissing() {
        due("with a THING", ring().soonest(3), NOTHING);
        due("without any", new BothHandsFull().soonest(0), NOTHING);
    }

    static void promise21_badItsSize() {
        BothHandsFull x = ring();
        x.sheet(0, 0, 2);
        due("1 more", x.soonest(0), BAD);
        x.sheet(0, 0, 0);
        due("1 less", x.soonest(0), BAD);
    }

    static void promise21_allIsInThought() {
        BothHandsFull x = fullHands();
        row(x, 0, 0, 0, 2, 2);
        refused(x, "soonest", 3, y -> y.soonest(0));
    }

    // ---- 22 drawn

    private static int next(int z) {
        return (int) (z * 1103515245L + 12345L);
    }

    /** oneHand() by the letter: the HOLD that is drawn is where THE KEY lies. */
    private static int drawnByHand(int seed, int n) {
        int z = seed;
        for (int i = 1; i <= n; i++) {
            z = next(z);
            if ((z >>> 17) % 3 == 1) {
                return i;
            }
        }
        return NONE;
    }

    static void promise22_byTheLetter() {
        for (int seed = -150; seed < 150; seed++) {
            due("seed " + seed, oneHand().drawn(seed, 40), drawnByHand(seed, 40));
        }
    }

    static void promise22_anySeed() {
        for (int seed : new int[] {LEAST_INT, LEAST_INT + 1, MOST_INT, MOST_INT - 1, 1 << 30, -12345}) {
            due("seed " + seed, oneHand().drawn(seed, 40), drawnByHand(seed, 40));
        }
    }

    static void promise22_nTimesAtMost() {
        for (int seed = 0; seed < 60; seed++) {
            int behind = drawnByHand(seed, 40);
            if (behind > 1) {
                due("as many, seed " + seed, oneHand().drawn(seed, behind), behind);
                due("1 less, seed " + seed, oneHand().drawn(seed, behind - 1), NONE);
            }
        }
    }

    static void promise22_ifItCan() {
        for (int seed = -100; seed < 100; seed++) {
            BothHandsFull x = with(holds(HOLD, 9, HAND, 0), 30, 0, 10, 1);
            x.set(1, 0, 0);
            x.set(0, 0, 0);
            due("seed " + seed, x.drawn(seed, 40), drawnInTurn(seed));
        }
    }

    /** THE KEY fills the HAND (1), so the other THING must be drawn away ahead of it. */
    private static int drawnInTurn(int seed) {
        int z = seed;
        int other = 1;
        for (int i = 1; i <= 40; i++) {
            z = next(z);
            int to = (z >>> 17) % 2;
            if ((z >>> 9) % 2 == 1) {
                other = to;
            } else if (to == 1 && other == 0) {
                return i;
            }
        }
        return NONE;
    }

    static void promise22_0AsItIs() {
        BothHandsFull x = oneHand();
        x.move(0, 1);
        due("of 40", x.drawn(7, 40), 0);
        due("of 1", x.drawn(7, 1), 0);
    }

    static void promise22_none() {
        BothHandsFull x = fullHands();
        x.set(0, 0, 3);
        due("it can't be", x.drawn(1, 40), NONE);
        x.set(1, 0, NONE);
        due("no KEY", x.drawn(1, 40), NONE);
    }

    static void promise22_withoutThingsNothingDoes() {
        due("no HOLDS", new BothHandsFull().drawn(1, 40), NONE);
        due("HOLDS", holds(HAND, 0, HAND, 0).drawn(1, 40), NONE);
    }

    static void promise22_badN() {
        for (int n : new int[] {0, -1, 41, LEAST_INT, MOST_INT}) {
            due("n " + n, oneHand().drawn(1, n), BAD);
        }
        BothHandsFull x = oneHand();
        x.move(0, 1);
        due("OPEN as it is", x.drawn(1, 0), BAD);
    }

    static void promise22_allIsInThought() {
        refused(oneHand(), "drawn", drawnByHand(3, 40), x -> x.drawn(3, 40));
    }

    // ---- 23 chance

    /** Four HANDS, five THINGS: by some seeds it becomes OPEN within 40 times, by others not. */
    private static BothHandsFull uncertain() {
        BothHandsFull x = with(holds(HOLD, 0, HAND, 0, HAND, 0, HAND, 0), 10, 0, 10, 1, 10, 2, 10, 3, 10, 0);
        x.set(1, 0, 0);
        x.set(0, 0, 2);
        return x;
    }

    private static int hits(int seed, int n) {
        int hits = 0;
        for (int i = 0; i < n; i++) {
            hits += uncertain().drawn(seed + i, 40) >= 0 ? 1 : 0;
        }
        return hits;
    }

    static void promise23_seedAndEach1More() {
        for (int seed : new int[] {0, 7, -3, 1000}) {
            for (int n = 1; n <= 20; n++) {
                long above = uncertain().chance(seed, n, 0);
                long below = uncertain().chance(seed, n, 1);
                due(n + " from " + seed, above * n, hits(seed, n) * below);
            }
        }
    }

    static void promise23_lowestTerms() {
        for (int seed = 0; seed < 40; seed += 3) {
            for (int n = 1; n <= 20; n++) {
                long above = uncertain().chance(seed, n, 0);
                long below = uncertain().chance(seed, n, 1);
                long common = 1;
                for (long d = 2; d <= below; d++) {
                    common = above % d == 0 && below % d == 0 ? d : common;
                }
                due(above + " of " + below, common, 1);
            }
        }
    }

    static void promise23_theSeedIsAnInt() {
        for (int first = MOST_INT - 6; first > 0; first++) {
            long above = uncertain().chance(first, 20, 0);
            long below = uncertain().chance(first, 20, 1);
            due("20 from " + first, above * 20, hits(first, 20) * below);
        }
    }

    static void promise23_never() {
        BothHandsFull x = uncertain();
        x.set(0, 0, 3);
        x.set(1, 0, NONE);
        due("above", x.chance(0, 20, 0), 0);
        due("below", x.chance(0, 20, 1), 1);
        due("of 1: above", x.chance(0, 1, 0), 0);
        due("of 1: below", x.chance(0, 1, 1), 1);
    }

    static void promise23_always() {
        BothHandsFull x = oneHand();
        x.move(0, 1);
        due("above", x.chance(0, 20, 0), 1);
        due("below", x.chance(0, 20, 1), 1);
    }

    static void promise23_40TimesEach() {
        int late = 0;
        for (int seed = 0; seed < 2000 && late == 0; seed++) {
            late = uncertain().drawn(seed, 40) == 40 ? seed : 0;
        }
        due("there is one that takes all 40", late > 0 ? 1 : 0, 1);
        due("it is one of these", uncertain().chance(late, 1, 0), 1);
    }

    static void promise23_nOutside() {
        for (int n : new int[] {0, -1, 21, LEAST_INT, MOST_INT}) {
            due("n " + n + ", above", uncertain().chance(0, n, 0), NO);
            due("n " + n + ", below", uncertain().chance(0, n, 1), NO);
        }
    }

    static void promise23_noSuchPart() {
        for (int part : new int[] {-1, 2, LEAST_INT, MOST_INT}) {
            due("part " + part, uncertain().chance(0, 1, part), NO);
        }
    }

    static void promise23_allIsInThought() {
        refused(oneHand(), "chance", 1, x -> x.chance(3, 20, 1));
    }

    // ---- 24 image

    static void promise24_howManyThings() {
        due("three", fullHands().image(), 3);
        due("none", new BothHandsFull().image(), 0);
        due("five", crowd().image(), 5);
    }

    static void promise24_itChangesNothing() {
        refused(fullHands(), "image", 3, BothHandsFull::image);
    }

    static void promise24_theNewestIsKept() {
        BothHandsFull x = fullHands();
        x.image();
        x.move(1, 2);
        due("a new one", x.image(), 3);
        x.move(2, 2);
        x.back();
        due("as in the new one", x.told(1, 10), 2);
        due("the later MOVE is undone", x.told(2, 10), 1);
    }

    // ---- 25 back

    static void promise25_stateThereIsNone() {
        refused(fullHands(), "back", STATE, BothHandsFull::back);
        refused(new BothHandsFull(), "back of nothing", STATE, BothHandsFull::back);
    }

    static void promise25_howManyThings() {
        BothHandsFull x = fullHands();
        x.image();
        x.thing(10, 2);
        due(x.back(), 3);
    }

    static void promise25_numbers() {
        BothHandsFull x = fullHands();
        x.image();
        x.set(2, 0, 9);
        x.back();
        due("NUMBER", x.told(0, 1), 0);
        due("ROOM", x.told(0, 2), 3);
    }

    static void promise25_whereAllLie() {
        BothHandsFull x = fullHands();
        x.image();
        x.move(1, 2);
        x.move(2, 2);
        x.move(0, 1);
        x.back();
        due("THE KEY", x.told(0, 10), 2);
        due("the bag", x.told(1, 10), 0);
        due("the box", x.told(2, 10), 1);
    }

    static void promise25_dry() {
        BothHandsFull x = fullHands();
        x.set(3, 1, 1);
        x.image();
        x.set(3, 1, 0);
        x.set(3, 2, 1);
        x.back();
        due("what was DRY", x.told(1, 9), 1);
        due("what was not", x.told(2, 9), 0);
    }

    static void promise25_apart() {
        BothHandsFull x = fullHands();
        x.part(0, 1, 1);
        x.image();
        x.part(0, 1, 0);
        x.part(1, 2, 1);
        x.back();
        due("from THE KEY", x.told(0, 11), 2);
        due("from the bag", x.told(1, 11), 1);
        due("from the box", x.told(2, 11), 0);
    }

    static void promise25_theKey() {
        BothHandsFull x = fullHands();
        x.image();
        x.set(1, 0, 2);
        x.back();
        due("a THING", x.count(3), 0);
        x.set(1, 0, NONE);
        x.image();
        x.set(1, 0, 1);
        x.back();
        due("NONE", x.count(3), NONE);
    }

    static void promise25_free() {
        BothHandsFull x = fullHands();
        x.set(0, 0, 3);
        x.image();
        x.set(0, 0, 0);
        x.back();
        due(x.count(2), 3);
    }

    static void promise25_theRule() {
        BothHandsFull x = fullHands();
        rule(x, "costs 1;bell 2;worth 3;");
        x.image();
        x.force(0);
        x.back();
        due("THE RULE", x.count(6), 1);
        due("bell", x.asks(1, 0, 0), 2);
    }

    static void promise25_holdsThatCameSinceGo() {
        BothHandsFull x = fullHands();
        x.image();
        x.hold(NAIL, 5);
        x.hold(STEP, 5);
        x.back();
        due("HOLDS", x.count(0), 3);
        due("the fourth", x.told(3, 0), NO_SUCH);
        due("another has its number", x.hold(STEP, 1), 3);
        due("and its own KIND", x.told(3, 0), STEP);
    }

    static void promise25_thingsThatCameSinceGo() {
        BothHandsFull x = fullHands();
        x.image();
        x.thing(11, 2);
        x.part(3, 1, 1);
        x.set(1, 0, 3);
        x.back();
        due("THINGS", x.count(1), 3);
        due("the fourth", x.told(3, 8), NO_SUCH);
        due("what lies on the SILL", x.told(2, 6), 1);
        due("none is APART from it", x.told(1, 11), 0);
        due("THE KEY it was", x.count(3), 0);
        due("another has its number", x.thing(20, 2), 3);
        due("and its own SIZE", x.told(3, 8), 2);
        due("it is not DRY", x.told(3, 9), 0);
        due("it is APART from none", x.told(3, 11), 0);
    }

    static void promise25_holdsWithWhatLiesInThemGo() {
        BothHandsFull x = holds(HAND, 0);
        x.image();
        x.hold(SILL, 0);
        x.thing(10, 1);
        due("THINGS", x.back(), 0);
        due("HOLDS", x.count(0), 1);
        due("nothing lies there", x.told(0, 6), 0);
    }

    static void promise25_toNothing() {
        BothHandsFull x = new BothHandsFull();
        x.image();
        x.hold(HAND, 0);
        x.thing(10, 0);
        x.set(1, 0, 0);
        x.set(0, 0, 3);
        due("THINGS", x.back(), 0);
        due("HOLDS", x.count(0), 0);
        due("THE KEY", x.count(3), NONE);
        due("FREE", x.count(2), 1);
        due("a HOLD that comes", x.hold(SILL, 0), 0);
    }

    static void promise25_asOftenAsYouLike() {
        BothHandsFull x = fullHands();
        x.image();
        for (int i = 0; i < 3; i++) {
            x.move(1, 2);
            due("back", x.back(), 3);
            due("the bag", x.told(1, 10), 0);
        }
    }

    static void promise25_whatItDoesNotKeepStays() {
        BothHandsFull x = fullHands();
        x.image();
        text(x, "costs 1;bell 2;worth 3;");
        feed(x, "abc");
        row(x, 0, 0, 12, 10);
        x.back();
        due("TEXTS", x.count(4), 2);
        due("bytes", x.count(5), 3);
        due("a SHEET", x.judge(0, 1), 6);
        due("another", x.judge(1, 1), NOTHING);
    }

    // ---- 26 count

    static void promise26_each() {
        BothHandsFull x = fullHands();
        x.thing(10, 2);
        x.set(0, 0, 2);
        x.set(1, 0, 3);
        text(x, "costs 7;bell 8;worth 9;");
        rule(x, "costs 7;bell 8;worth 9;");
        feed(x, "abcdefg");
        int[] want = {3, 4, 2, 3, 3, 7, 2};
        for (int what = 0; what < want.length; what++) {
            due("what " + what, x.count(what), want[what]);
        }
    }

    static void promise26_noKey() {
        BothHandsFull x = fullHands();
        x.set(1, 0, NONE);
        due(x.count(3), NONE);
    }

    static void promise26_badWhat() {
        for (int what : new int[] {-1, 7, LEAST_INT, MOST_INT}) {
            due("what " + what, fullHands().count(what), BAD);
        }
    }
}
