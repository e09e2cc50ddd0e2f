/** Promises 10 to 13: MOVES, why they can't be, OPEN, what THE RULE tells. */
public final class MovesTest extends Checks {
    public static void main(String[] args) {
        run(MovesTest.class, 10, 13);
    }

    /** A STEP (0) and a SILL (1) with THINGS of 1 (0), 4 (1), 3 (2, on the SILL) by a rule of costs. */
    private static BothHandsFull byCosts(String costs) {
        BothHandsFull x = with(holds(STEP, 5, SILL, 5, STEP, 5), 10, 0, 40, 0, 30, 1);
        rule(x, "costs " + costs + ";bell 1;worth 1;");
        return x;
    }

    private static int value(String e) {
        return byCosts(e).asks(0, 0, 1);
    }

    // ---- 10 move

    static void promise10_whatItCosts() {
        BothHandsFull x = fullHands();
        due("the bag", x.move(1, 2), 3);
        due("its HOLD", x.told(1, 10), 2);
        due("the box", x.move(2, 0), 2);
        due("its HOLD", x.told(2, 10), 0);
        due("others lie where they lay", x.told(0, 10), 2);
    }

    static void promise10_itCostsByWhereItLay() {
        BothHandsFull x = byCosts("10*from+to");
        due("from 0 to 1", x.move(0, 1), 1);
        due("from 1 to 2", x.move(0, 2), 12);
        due("from 2 to 0", x.move(0, 0), 20);
    }

    static void promise10_itCosts0To99ElseTheBound() {
        due("nothing", byCosts("0").move(0, 1), 0);
        due("99", byCosts("99").move(0, 1), 99);
        due("100", byCosts("100").move(0, 1), 99);
        due("-1", byCosts("-1").move(0, 1), 0);
    }

    static void promise10_badNoSuchThing() {
        for (int t : new int[] {-1, 3, LEAST_INT, MOST_INT}) {
            refused(fullHands(), "THING " + t, BAD, x -> x.move(t, 2));
        }
        refused(holds(HOLD, 0), "no THING at all", BAD, x -> x.move(0, 0));
    }

    static void promise10_badNoSuchHold() {
        for (int h : new int[] {-1, 3, LEAST_INT, MOST_INT}) {
            refused(fullHands(), "HOLD " + h, BAD, x -> x.move(1, h));
        }
        due("the last THING to the last HOLD", fullHands().move(2, 2), 2);
    }

    static void promise10_stateToWhereItLies() {
        refused(fullHands(), "in a HAND", STATE, x -> x.move(1, 0));
        refused(fullHands(), "on the SILL", STATE, x -> x.move(0, 2));
    }

    static void promise10_stateByRoom() {
        BothHandsFull x = with(holds(HAND, 2, HOLD, 9), 20, 0, 40, 1, 30, 1);
        refused(x, "1 too large", STATE, y -> y.move(1, 0));
        due("just as large", x.move(2, 0), 3);
    }

    static void promise10_stateByMost() {
        BothHandsFull x = with(holds(HAND, 9, HOLD, 9), 10, 0, 10, 0, 10, 1, 10, 1);
        due("the third in a HAND", x.move(2, 0), 1);
        refused(x, "the fourth", STATE, y -> y.move(3, 0));
    }

    static void promise10_stateByWet() {
        BothHandsFull x = with(holds(STEP, 0, HOLD, 9), 11, 1, 10, 1);
        refused(x, "what is DRY", STATE, y -> y.move(0, 0));
        due("what is not", x.move(1, 0), 1);
    }

    static void promise10_stateByApart() {
        BothHandsFull x = with(holds(HOLD, 9, HOLD, 9, HOLD, 9), 10, 0, 10, 1, 10, 2);
        x.part(0, 1, 1);
        refused(x, "to the other", STATE, y -> y.move(0, 1));
        refused(x, "the other to it", STATE, y -> y.move(1, 0));
        due("a third", x.move(2, 1), 1);
        x.part(0, 1, 0);
        due("not any more", x.move(0, 1), 1);
    }

    static void promise10_badAheadOfState() {
        BothHandsFull x = with(holds(NAIL, 0), 10, 0);
        refused(x, "no such HOLD", BAD, y -> y.move(0, 1));
        refused(x, "no such THING", BAD, y -> y.move(1, 0));
    }

    // ---- 11 why

    /** A small HAND (0), a STEP (1), a SILL (2), a NAIL (3); what is asked lies on the SILL. */
    private static BothHandsFull reasons() {
        return with(holds(HAND, 0, STEP, 0, SILL, 9, NAIL, 9), 21, 2, 20, 0, 90, 1, 10, 3, 10, 2);
    }

    static void promise11_0ItCan() {
        BothHandsFull x = reasons();
        due(x.why(4, 1), 0);
        due("it still lies where it lay", x.told(4, 10), 2);
    }

    static void promise11_1ItLiesThere() {
        due("on the SILL", reasons().why(0, 2), 1);
        due("what fills it", with(holds(NAIL, 0), 10, 0).why(0, 0), 1);
        due("on the STEP", with(holds(STEP, 0), 90, 0).why(0, 0), 1);
    }

    static void promise11_2Room() {
        due("1 too large", reasons().why(0, 0), 2);
        due("just as large", reasons().why(4, 0), 0);
    }

    static void promise11_3Most() {
        due("a NAIL", reasons().why(4, 3), 3);
        BothHandsFull hand = with(holds(HAND, 9, HOLD, 9), 10, 0, 10, 0, 10, 1, 10, 1);
        due("the third in a HAND", hand.why(2, 0), 0);
        hand.move(2, 0);
        due("the fourth", hand.why(3, 0), 3);
        due("a KNEE", with(holds(KNEE, 9, HOLD, 9), 10, 0, 10, 1).why(1, 0), 3);
        BothHandsFull sill = with(holds(SILL, 9, HOLD, 9), 10, 0, 10, 0, 10, 0, 10, 0, 10, 1);
        due("the fifth on a SILL", sill.why(4, 0), 0);
    }

    static void promise11_4Wet() {
        due("DRY to a STEP", reasons().why(0, 1), 4);
        for (int kind = 0; kind < 5; kind++) {
            due("DRY to KIND " + kind, with(holds(kind, 9, SILL, 9), 11, 1).why(0, 0), 0);
        }
    }

    static void promise11_5Apart() {
        BothHandsFull x = with(holds(HOLD, 9, HOLD, 9, HOLD, 9), 10, 0, 10, 1, 10, 2);
        x.part(0, 1, 1);
        due("to the other", x.why(0, 1), 5);
        due("the other to it", x.why(1, 0), 5);
        due("to a third", x.why(0, 2), 0);
        x.move(1, 2);
        due("where the other lay", x.why(0, 1), 0);
        due("to both", x.why(0, 2), 5);
    }

    static void promise11_roomAheadOfMost() {
        due(with(holds(NAIL, 0, HOLD, 9), 10, 0, 10, 1).why(1, 0), 2);
    }

    static void promise11_roomAheadOfWet() {
        due(with(holds(STEP, 0, HOLD, 9), 90, 0, 41, 1).why(1, 0), 2);
    }

    static void promise11_roomAheadOfApart() {
        BothHandsFull x = with(holds(HAND, 0, HOLD, 9), 20, 0, 20, 1);
        x.part(0, 1, 1);
        due(x.why(1, 0), 2);
    }

    static void promise11_mostAheadOfApart() {
        BothHandsFull x = with(holds(NAIL, 9, HOLD, 9), 10, 0, 10, 1);
        x.part(0, 1, 1);
        due(x.why(1, 0), 3);
    }

    static void promise11_wetAheadOfApart() {
        BothHandsFull x = with(holds(STEP, 9, HOLD, 9), 10, 0, 11, 1);
        x.part(0, 1, 1);
        due(x.why(1, 0), 4);
        x.set(3, 1, 0);
        due("not DRY", x.why(1, 0), 5);
    }

    static void promise11_badNoSuch() {
        for (int v : new int[] {-1, LEAST_INT, MOST_INT}) {
            due("THING " + v, reasons().why(v, 0), BAD);
            due("HOLD " + v, reasons().why(0, v), BAD);
        }
        due("the THING behind the last", reasons().why(5, 0), BAD);
        due("the HOLD behind the last", reasons().why(0, 4), BAD);
        due("where there is nothing", new BothHandsFull().why(0, 0), BAD);
    }

    // ---- 12 open

    static void promise12_noKey() {
        BothHandsFull x = with(holds(HAND, 9, HAND, 9), 10, 0);
        due("none yet", x.open(0), 0);
        x.set(1, 0, 0);
        due("there is one", x.open(0), 1);
        x.set(1, 0, NONE);
        due("none any more", x.open(0), 0);
    }

    static void promise12_itLiesInAHoldThatOpens() {
        for (int kind = 0; kind < 6; kind++) {
            BothHandsFull x = with(holds(kind, 9, HAND, 0, HAND, 0), 10, 0);
            x.set(1, 0, 0);
            due("in KIND " + kind, x.open(0), kind == HAND ? 1 : 0);
        }
    }

    static void promise12_freeOrMoreOthers() {
        for (int free = 0; free < 4; free++) {
            for (int empty = 0; empty < 5; empty++) {
                BothHandsFull x = holds(HAND, 9);
                for (int i = 0; i < 4; i++) {
                    x.hold(i < empty ? HAND : HOLD, 0);
                }
                x.thing(10, 0);
                x.set(1, 0, 0);
                x.set(0, 0, free);
                due("FREE " + free + " of " + empty, x.open(0), empty >= free ? 1 : 0);
            }
        }
    }

    static void promise12_whatLiesInAHandMakesItNotFree() {
        BothHandsFull x = with(holds(HAND, 9, HAND, 9, SILL, 9), 10, 0, 10, 1);
        x.set(1, 0, 0);
        due("full", x.open(0), 0);
        x.move(1, 2);
        due("empty", x.open(0), 1);
        x.move(1, 0);
        due("beside THE KEY", x.open(0), 1);
    }

    static void promise12_holdsUnderAHandDoNotOpen() {
        BothHandsFull x = with(holds(HAND, 9, KNEE, 9), 10, 0);
        x.set(1, 0, 0);
        due("a KNEE is not free", x.open(0), 0);
        due("nor counted", x.open(1), 0);
    }

    static void promise12_howManyHaveNothingInThem() {
        due("no HOLDS", new BothHandsFull().open(1), 0);
        BothHandsFull x = holds(HAND, 9, HAND, 0, HAND, 0, HAND, 0, HAND, 0);
        due("all", x.open(1), 5);
        x.thing(10, 0);
        due("but one", x.open(1), 4);
        x.thing(10, 0);
        due("two lie there", x.open(1), 4);
        x.thing(10, 1);
        x.thing(10, 2);
        x.thing(10, 3);
        due("one", x.open(1), 1);
        x.move(1, 4);
        due("none", x.open(1), 0);
        for (int kind = 0; kind < 6; kind++) {
            due("of KIND " + kind, holds(kind, 0).open(1), kind == HAND ? 1 : 0);
        }
    }

    static void promise12_howManyMovesCanBe() {
        due("nothing", new BothHandsFull().open(2), 0);
        due("no THING", holds(HAND, 0, HAND, 0).open(2), 0);
        due("no other HOLD", with(holds(HOLD, 9), 10, 0, 10, 0).open(2), 0);
        due("but to the SILL", fullHands().open(2), 2);
        due("all to all", crowd().open(2), 20);
        BothHandsFull x = with(holds(STEP, 9, HOLD, 9), 11, 1, 10, 1);
        due("not what is DRY", x.open(2), 1);
        x.move(1, 0);
        x.set(3, 0, 0);
        x.part(0, 1, 1);
        due("not what must be APART", x.open(2), 0);
    }

    static void promise12_badWhat() {
        for (int what : new int[] {-1, 3, LEAST_INT, MOST_INT}) {
            due("what " + what, fullHands().open(what), BAD);
        }
    }

    // ---- 13 asks

    static void promise13_costsKnowsItsNames() {
        due("size", byCosts("size").asks(0, 1, 2), 4);
        due("from", byCosts("from").asks(0, 2, 0), 1);
        due("to", byCosts("to").asks(0, 0, 2), 2);
        due("thing", byCosts("thing").asks(0, 2, 0), 2);
        due("many", byCosts("many").asks(0, 0, 0), 3);
        due("wet: a STEP", byCosts("wet").asks(0, 2, 0), 1);
        due("wet: a SILL", byCosts("wet").asks(0, 0, 1), 0);
        due("all of 0", byCosts("from+to+thing").asks(0, 0, 0), 0);
    }

    static void promise13_costsAlsoWhereTheMoveCantBe() {
        due("where it lies", byCosts("10*from+to").asks(0, 2, 1), 11);
        due("without ROOM", fullHands().asks(0, 0, 0), 2);
    }

    static void promise13_costsAreBounded() {
        due("99", value("99"), 99);
        due("100", value("100"), 99);
        due("9999", value("9999"), 99);
        due("0", value("0"), 0);
        due("-1", value("-1"), 0);
        due("-9999", value("-9999"), 0);
    }

    static void promise13_costsOfNoneSuch() {
        for (int v : new int[] {-1, 3, LEAST_INT, MOST_INT}) {
            due("THING " + v, fullHands().asks(0, v, 0), NONE);
            due("HOLD " + v, fullHands().asks(0, 0, v), NONE);
        }
        due("the last of both", fullHands().asks(0, 2, 2), 2);
        due("nothing", new BothHandsFull().asks(0, 0, 0), NONE);
    }

    static void promise13_anIntWraps() {
        due("above", value("(9999*9999*22 < 0) + 1"), 2);
        due("below", value("(0 < -9999*9999*22) + 1"), 2);
        due("to 0", value("4096*4096*256 = 0"), 1);
        due("the greatest and 1", value("2048*2048*512 - 1 + 1 < 0"), 1);
        due("- of the least", value("-(2048*2048*512) < 0"), 1);
        due("the least less 1", value("0 < 2048*2048*512 - 1"), 1);
    }

    static void promise13_boundedBehindTheWrap() {
        due("4295 * 100000 ..", value("4096*4096*256 + 7"), 7);
        due("2 31", value("2048*2048*512"), 0);
        due("2 31 less 1", value("2048*2048*512 - 1"), 99);
    }

    static void promise13_orAndNotAre1Or0() {
        due("7 and 5", value("7 and 5"), 1);
        due("7 and 0", value("7 and 0"), 0);
        due("0 and 7", value("0 and 7"), 0);
        due("0 or 5", value("0 or 5"), 1);
        due("5 or 0", value("5 or 0"), 1);
        due("0 or 0", value("0 or 0"), 0);
        due("not 5", value("not 5"), 0);
        due("not 0", value("not 0"), 1);
        due("not not 9", value("not not 9"), 1);
        due("below 0 is true", value("-1 and 2-4"), 1);
        due("not below 0", value("not -1"), 0);
        due("without them it is as it is", value("(9)"), 9);
    }

    static void promise13_lessAndAlikeAre1Or0() {
        due("1<2", value("1<2"), 1);
        due("2<2", value("2<2"), 0);
        due("3<2", value("3<2"), 0);
        due("-1<0", value("-1<0"), 1);
        due("0<-1", value("0<-1"), 0);
        due("2=2", value("2=2"), 1);
        due("2=3", value("2=3"), 0);
        due("across the middle", value("-(2048*2048*512) < 2048*2048*512-1"), 1);
    }

    static void promise13_whatBindsCloser() {
        due("* ahead of +", value("2+3*4"), 14);
        due("* ahead of -", value("20-3*4"), 8);
        due("( )", value("(2+3)*4"), 20);
        due("+ ahead of <", value("1+1<3"), 1);
        due("+ ahead of =", value("3=1+2"), 1);
        due("< ahead of not", value("not 5<3"), 1);
        due("not ahead of and", value("not 1 and 0"), 0);
        due("not ahead of or", value("not 1 or 1"), 1);
        due("and ahead of or", value("1 or 1 and 0"), 1);
        due("and ahead of or, on the left", value("0 and 1 or 1"), 1);
        due("- ahead of *", value("0-2*-3"), 6);
        due("- ahead of +", value("-2+5"), 3);
    }

    static void promise13_fromTheLeft() {
        due("20-10-5", value("20-10-5"), 5);
        due("20-10+5", value("20-10+5"), 15);
        due("--5", value("--5"), 5);
        due("5--2", value("5--2"), 7);
    }

    static void promise13_aNumberMayBegin0() {
        due("0007", value("0007"), 7);
        due("9999", value("9999-9990"), 9);
    }

    static void promise13_asDeepAsCanBe() {
        due("5 brackets", value("1+2*(1+2*(1+2*(1+2*(1+2*(1)))))"), 63);
        String e = "0 or 1 and 2<1+2*(";
        due("with all that waits", value(e.repeat(5) + "1" + ")".repeat(5)), 1);
        due("with all that waits in vain", value(e.repeat(5) + "0" + ")".repeat(5)), 0);
        due("5 of not", value("not not not not not 0"), 1);
        due("5 of -", value("9------5"), 14);
    }

    static void promise13_bellKnowsButMany() {
        BothHandsFull x = fullHands();
        rule(x, "costs 1;bell 9000+size+from+to+thing+wet-many;worth 1;");
        due("3 THINGS", x.asks(1, 2, 2), 8997);
        due("none", emptyRule("costs 1;bell 50-many;worth 1;").asks(1, 0, 0), 50);
    }

    private static BothHandsFull emptyRule(String text) {
        BothHandsFull x = new BothHandsFull();
        rule(x, text);
        return x;
    }

    static void promise13_bellOfNothing() {
        BothHandsFull x = new BothHandsFull();
        due("no THING, no HOLD", x.asks(1, 0, 0), 20);
        due("whatever is said", x.asks(1, LEAST_INT, MOST_INT), 20);
    }

    static void promise13_bellIsBounded() {
        due("9999", emptyRule("costs 1;bell 9999;worth 1;").asks(1, 0, 0), 9999);
        due("10000", emptyRule("costs 1;bell 9999+1;worth 1;").asks(1, 0, 0), 9999);
        due("-1", emptyRule("costs 1;bell -1;worth 1;").asks(1, 0, 0), 0);
        due("0", emptyRule("costs 1;bell 0;worth 1;").asks(1, 0, 0), 0);
    }

    static void promise13_worthKnowsItsNames() {
        BothHandsFull x = fullHands();
        rule(x, "costs 1;bell 1;worth 100*size+10*thing+from+1000*to+5000*wet;");
        due("of the box", x.asks(2, 2, 0), 221);
        due("of THE KEY", x.asks(2, 0, 0), 202);
        rule(x, "costs 1;bell 1;worth many;");
        due("many", x.asks(2, 0, 0), 3);
    }

    static void promise13_worthKnowsNoToAndNoWet() {
        BothHandsFull x = with(holds(HOLD, 9, STEP, 9), 10, 1);
        rule(x, "costs 1;bell 1;worth 7+to+wet;");
        due(x.asks(2, 0, 1), 7);
    }

    static void promise13_worthTheHoldDoesNotMatter() {
        due("below", fullHands().asks(2, 0, LEAST_INT), 10);
        due("above", fullHands().asks(2, 0, 3), 10);
    }

    static void promise13_worthIsBounded() {
        String[] worth = {"999", "1000", "-1", "0"};
        int[] want = {999, 999, 0, 0};
        for (int i = 0; i < worth.length; i++) {
            BothHandsFull x = fullHands();
            rule(x, "costs 1;bell 1;worth " + worth[i] + ";");
            due(worth[i], x.asks(2, 0, 0), want[i]);
        }
    }

    static void promise13_worthOfNoSuchThing() {
        for (int v : new int[] {-1, 3, LEAST_INT, MOST_INT}) {
            due("THING " + v, fullHands().asks(2, v, 0), NONE);
        }
        due("the last", fullHands().asks(2, 2, 0), 10);
    }

    static void promise13_noSuchPart() {
        for (int part : new int[] {-1, 3, LEAST_INT, MOST_INT}) {
            due("part " + part, fullHands().asks(part, 0, 0), NONE);
        }
    }
}
