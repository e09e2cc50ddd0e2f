/** For each promise of the document: ordinary inputs, the edges that it names, wrong inputs. */
public final class PromisesTest {
    private static final int HOLD = 0, HAND = 1, SILL = 2, KNEE = 3, NAIL = 4, STEP = 5;
    private static final int[] WILD = {Integer.MIN_VALUE, -1000, -2, 1000, Integer.MAX_VALUE};
    private static int wrong = 0;
    private static int asked = 0;

    private static void due(String what, long got, long want) {
        asked++;
        if (got != want) {
            wrong++;
            System.out.println(what + " answered " + got + ", due is " + want);
        }
    }

    private static void feed(BothHandsFull x, String text) {
        for (int i = 0; i < text.length(); i++) {
            x.feed(text.charAt(i));
        }
    }

    private static int text(BothHandsFull x, String text) {
        feed(x, text);
        return x.text();
    }

    private static void row(BothHandsFull x, int sheet, int sort, int... cells) {
        x.sheet(sheet, sort, cells.length);
        for (int i = 0; i < cells.length; i++) {
            x.cell(sheet, i, cells[i]);
        }
    }

    /** Two HANDS that are full, a SILL with THE KEY on it. */
    private static BothHandsFull fullHands() {
        BothHandsFull x = new BothHandsFull();
        x.hold(HAND, 0);
        x.hold(HAND, 0);
        x.hold(SILL, 0);
        x.thing(20, 2);
        x.thing(30, 0);
        x.thing(20, 1);
        x.set(1, 0, 0);
        return x;
    }

    public static void main(String[] args) {
        newObject();
        hold();
        thing();
        set();
        part();
        told();
        feed();
        text();
        texts();
        force();
        move();
        why();
        open();
        asks();
        best();
        bestByCost();
        pack();
        ring();
        leave();
        roomy();
        judge();
        ways();
        soonest();
        drawn();
        chance();
        image();
        count();
        sheet();
        cell();
        copy();
        things();
        taken();
        wild();
        System.out.println(asked + " answers asked, " + wrong + " not as due");
        if (wrong != 0) {
            System.exit(1);
        }
    }

    private static void newObject() {
        BothHandsFull x = new BothHandsFull();
        due("1 HOLDS", x.count(0), 0);
        due("1 THINGS", x.count(1), 0);
        due("1 FREE", x.count(2), 1);
        due("1 THE KEY", x.count(3), -1);
        due("1 TEXTS", x.count(4), 1);
        due("1 THE TAPE", x.count(5), 0);
        due("1 THE RULE", x.count(6), 0);
        due("1 no HOLD", x.told(0, 0), -100);
        due("1 no THING", x.told(0, 8), -100);
        for (int s = 0; s < 4; s++) {
            due("1 SHEETS are missing", x.cell(s, 0, 0), -11);
        }
        due("1 bell of TEXT 0", x.asks(1, 0, 0), 20);
        due("1 no IMAGE", x.back(), -3);
    }

    private static void hold() {
        BothHandsFull x = new BothHandsFull();
        due("2 first", x.hold(HOLD, 0), 0);
        due("2 second", x.hold(STEP, 9), 1);
        due("2 kind above", x.hold(6, 0), -2);
        due("2 kind below", x.hold(-1, 0), -2);
        due("2 number above", x.hold(HOLD, 10), -2);
        due("2 number below", x.hold(HOLD, -1), -2);
        due("2 they changed nothing", x.count(0), 2);
        x.hold(HAND, 1);
        x.hold(SILL, 2);
        due("2 fifth", x.hold(NAIL, 3), 4);
        due("2 sixth", x.hold(NAIL, 3), -4);
        due("2 BAD ahead of FULL", x.hold(6, 3), -2);
        due("2 five", x.count(0), 5);
    }

    private static void thing() {
        BothHandsFull x = new BothHandsFull();
        due("3 no HOLD at all", x.thing(10, 0), -2);
        x.hold(HOLD, 9);
        x.hold(STEP, 0);
        x.hold(KNEE, 9);
        due("3 the largest", x.thing(91, 0), 0);
        due("3 DRY", x.told(0, 9), 1);
        due("3 SIZE", x.told(0, 8), 9);
        due("3 size 0", x.thing(0, 0), -2);
        due("3 size 0, dry", x.thing(1, 0), -2);
        due("3 size 10", x.thing(100, 0), -2);
        due("3 dry 2", x.thing(12, 0), -2);
        due("3 below 0", x.thing(-10, 0), -2);
        due("3 no such HOLD", x.thing(10, 3), -2);
        due("3 HOLD below 0", x.thing(10, -1), -2);
        due("3 too large for what is left", x.thing(70, 0), -3);
        due("3 WET", x.thing(11, 1), -3);
        due("3 just so large", x.thing(60, 0), 1);
        due("3 a KNEE takes it", x.thing(60, 2), 2);
        due("3 a KNEE has MOST 1", x.set(2, 2, 9) == 9 ? x.thing(10, 2) : 0, -3);
        x.thing(10, 1);
        due("3 fifth", x.thing(10, 1), 4);
        due("3 FULL", x.thing(10, 1), -4);
        due("3 BAD ahead of FULL", x.thing(10, 5), -2);
        due("3 FULL ahead of STATE", x.thing(11, 1), -4);
        due("3 five", x.count(1), 5);
    }

    private static void set() {
        BothHandsFull x = fullHands();
        due("4 FREE", x.set(0, 0, 3), 1);
        due("4 FREE, of does not matter", x.set(0, 99, 0), 3);
        due("4 FREE above", x.set(0, 0, 4), -100);
        due("4 FREE below", x.set(0, 0, -1), -100);
        due("4 FREE stayed", x.count(2), 0);
        due("4 THE KEY", x.set(1, 99, 2), 0);
        due("4 THE KEY is none", x.set(1, 0, -1), 2);
        due("4 no such THING", x.set(1, 0, 3), -100);
        due("4 below NONE", x.set(1, 0, -2), -100);
        due("4 KEY stayed", x.set(1, 0, 0), -1);
        due("4 NUMBER", x.set(2, 0, 9), 0);
        due("4 ROOM grew", x.told(0, 2), 12);
        due("4 NUMBER back", x.set(2, 0, 0), 9);
        due("4 no such HOLD", x.set(2, 3, 0), -100);
        due("4 NUMBER above", x.set(2, 0, 10), -100);
        due("4 NUMBER below", x.set(2, 0, -1), -100);
        x.set(2, 0, 2);
        x.thing(20, 0);
        due("4 what lies there mightn't", x.set(2, 0, 1), -3);
        due("4 it changed nothing", x.told(0, 1), 2);
        due("4 ROOM too", x.told(0, 7), 0);
        due("4 the same NUMBER", x.set(2, 0, 2), 2);
        due("4 DRY", x.set(3, 0, 1), 0);
        due("4 DRY was", x.set(3, 0, 0), 1);
        due("4 DRY above", x.set(3, 0, 2), -100);
        due("4 DRY below", x.set(3, 0, -1), -100);
        due("4 no such THING to dry", x.set(3, 4, 0), -100);
        x.hold(STEP, 0);
        x.move(0, 3);
        due("4 it lies in what is WET", x.set(3, 0, 1), -3);
        due("4 it did not become DRY", x.told(0, 9), 0);
        due("4 not to be DRY is no matter", x.set(3, 0, 0), 0);
        due("4 no such what", x.set(4, 0, 0), -100);
        due("4 what below", x.set(-1, 0, 0), -100);
    }

    private static void part() {
        BothHandsFull x = fullHands();
        due("5 they were not", x.part(0, 1, 1), 0);
        due("5 they were", x.part(1, 0, 1), 1);
        due("5 bits of one", x.told(0, 11), 2);
        due("5 bits of the other", x.told(1, 11), 1);
        due("5 not any more", x.part(1, 0, 0), 1);
        due("5 bits are gone", x.told(0, 11) + x.told(1, 11), 0);
        due("5 alike", x.part(1, 1, 0), -2);
        due("5 no such", x.part(3, 1, 0), -2);
        due("5 no such other", x.part(1, 3, 0), -2);
        due("5 below", x.part(-1, 1, 0), -2);
        due("5 other below", x.part(1, -1, 0), -2);
        due("5 is 2", x.part(0, 1, 2), -2);
        due("5 is below", x.part(0, 1, -1), -2);
        x.thing(10, 2);
        due("5 they lie in one HOLD", x.part(0, 3, 1), -3);
        due("5 they are not", x.told(0, 11), 0);
        due("5 not to be, in one HOLD", x.part(0, 3, 0), 0);
    }

    private static void told() {
        // KIND, NUMBER, ROOM, MOST, WET, OPENS, bits, left; of NUMBER 0 and 9.
        int[][] want = {
            {0, 0, 6, 5, 0, 0, 0, 6}, {0, 9, 15, 5, 0, 0, 0, 15},
            {1, 0, 3, 3, 0, 1, 0, 3}, {1, 9, 12, 3, 0, 1, 0, 12},
            {2, 0, 12, 5, 0, 0, 0, 12}, {2, 9, 30, 5, 0, 0, 0, 30},
            {3, 0, 1, 1, 0, 0, 0, 1}, {3, 9, 6, 1, 0, 0, 0, 6},
            {4, 0, 1, 1, 0, 0, 0, 1}, {4, 9, 10, 1, 0, 0, 0, 10},
            {5, 0, 12, 5, 1, 0, 0, 12}, {5, 9, 30, 5, 1, 0, 0, 30},
        };
        for (int[] w : want) {
            BothHandsFull x = new BothHandsFull();
            x.hold(w[0], w[1]);
            for (int what = 0; what < 8; what++) {
                due("6 KIND " + w[0] + " NUMBER " + w[1] + " what " + what, x.told(0, what), w[what]);
            }
        }
        BothHandsFull x = fullHands();
        x.thing(51, 2);
        x.part(1, 3, 1);
        due("6 bits of what lies there", x.told(2, 6), 1 + 8);
        due("6 ROOM that is left", x.told(2, 7), 5);
        due("6 SIZE", x.told(3, 8), 5);
        due("6 DRY", x.told(3, 9), 1);
        due("6 its HOLD", x.told(3, 10), 2);
        due("6 APART", x.told(3, 11), 2);
        due("6 none such HOLD", x.told(3, 0), -100);
        due("6 HOLD below", x.told(-1, 7), -100);
        due("6 none such THING", x.told(4, 8), -100);
        due("6 THING below", x.told(-1, 11), -100);
        due("6 what above", x.told(0, 12), -100);
        due("6 what below", x.told(0, -1), -100);
    }

    private static void feed() {
        BothHandsFull x = new BothHandsFull();
        due("7 the first", x.feed(0), 1);
        due("7 the greatest byte", x.feed(255), 2);
        due("7 above", x.feed(256), -2);
        due("7 below", x.feed(-1), -2);
        due("7 they came not", x.count(5), 2);
        for (int i = 3; i <= 160; i++) {
            due("7 byte " + i, x.feed(32), i);
        }
        due("7 FULL", x.feed(32), -4);
        due("7 BAD ahead of FULL", x.feed(256), -2);
    }

    /** What FAULT a TEXT has; its number, if none. */
    private static void reads(String text, int want) {
        BothHandsFull x = new BothHandsFull();
        due("8 [" + text + "]", text(x, text), want);
        due("8 THE TAPE is empty", x.count(5), 0);
        due("8 how many", x.count(4), want > 0 ? 2 : 1);
    }

    private static void text() {
        reads("costs 1;bell 2;worth 3;", 1);
        reads(" costs\nsize ;bell 20 ; worth 10 ; \n", 1);
        reads("", -100);
        reads("  ", -102);
        reads("costs 1;bell 2;worth 3; x", -124);
        reads("costs 1;bell 2;worth 3; costs", -124);
        reads("costs 1;bell 2;worth 3", -122);
        reads("costs 1;bell 2;worth 3 ", -123);
        reads("costs 1;bell 2;", -115);
        reads("bell 1;", -100);
        reads("costs 1;worth 3;", -108);
        reads("costs ;", -106);
        reads("costs1;", -107);
        reads("costssize;", -100);
        reads("costs1;bell2;worth3;", 1);
        reads("costs size from;", -111);
        reads("costs sizes;", -106);
        reads("costs 9999;bell 1;worth 1;", 1);
        reads("costs 10000;bell 1;worth 1;", -106);
        reads("costs 00001;bell 1;worth 1;", -106);
        reads("costs 1x;", -107);
        reads("costs Size;", -106);
        reads("costs \tsize;", -106);
        reads("costs size \u00ff;", -111);
        reads("costs 1<2<3;", -109);
        reads("costs 1<2=3;", -109);
        reads("costs (1<2)<3;bell 1;worth 1;", 1);
        reads("costs 1 + not 2;", -110);
        reads("costs 1 < not 2;", -110);
        reads("costs - not 2;", -108);
        reads("costs not 1 and not 2 or not 3;bell 1;worth 1;", 1);
        reads("costs or 1;", -106);
        reads("costs 1 or;", -110);
        reads("costs (1;", -108);
        reads("costs 1);", -107);
        reads("costs ();", -107);
        reads("costs bell;", -106);
        reads("costs 1 bell 2;", -108);
        reads("costs 1 and", -111);
        reads("costs +1;", -106);
        reads("costs 1--1;bell 1;worth 1;", 1);
        openOnes();
    }

    /** 5 may be open, of whichever. */
    private static void openOnes() {
        reads("costs (((((1)))));bell 1;worth 1;", 1);
        reads("costs ((((((1))))));bell 1;worth 1;", -111);
        reads("costs -----1;bell 1;worth 1;", 1);
        reads("costs ------1;bell 1;worth 1;", -111);
        reads("costs not not not not not 1;bell 1;worth 1;", 1);
        reads("costs not not not not not not 1;", -126);
        reads("costs not(-(-1));bell 1;worth 1;", 1);
        reads("costs not(-(--1));", -113);
        reads("costs not(-(-(1)));", -113);
        reads("costs not(-(not 1));bell 1;worth 1;", 1);
        reads("costs not(-(not not 1));", -116);
        reads("costs not not not not not 1 and not 1;bell 1;worth 1;", 1);
        reads("costs not not not not not 1 < -1;", -130);
        reads("costs not not not not not 1 - 1;bell 1;worth 1;", 1);
        reads("costs (((((1)))))+(((((1)))));bell -----1;worth 1;", 1);
        reads("costs -(((1)))*-((((1))));bell 1;worth 1;", 1);
        reads("costs ((((not 1 or -1))));bell 1;worth 1;", 1);
    }

    private static void texts() {
        BothHandsFull x = new BothHandsFull();
        for (int n = 1; n <= 5; n++) {
            due("8 TEXT " + n, text(x, "costs " + n + ";bell " + n + ";worth " + n + ";"), n);
        }
        feed(x, "oh");
        due("8 FULL ahead of all", x.text(), -4);
        due("8 THE TAPE stays", x.count(5), 2);
        due("8 six TEXTS", x.count(4), 6);
        BothHandsFull y = new BothHandsFull();
        text(y, "costs 7;bell 8;worth 9");
        due("8 of a FAULT no TEXT came", y.count(4), 1);
        due("8 so it can't be THE RULE", y.force(1), -2);
        due("8 the next has its number", text(y, "costs 1;bell 2;worth 3;"), 1);
        y.force(1);
        due("8 it is that", y.asks(1, 0, 0), 2);
    }

    private static void force() {
        BothHandsFull x = fullHands();
        text(x, "costs 7;bell 8;worth 9;");
        due("9 which was", x.force(1), 0);
        due("9 it is THE RULE", x.count(6), 1);
        due("9 it tells", x.asks(0, 0, 0), 7);
        due("9 no such", x.force(2), -2);
        due("9 below", x.force(-1), -2);
        due("9 it stayed", x.force(0), 1);
        due("9 TEXT 0 again", x.asks(0, 1, 2), 3);
    }

    private static void move() {
        BothHandsFull x = fullHands();
        due("10 what it costs", x.move(1, 2), 3);
        due("10 there it lies", x.told(1, 10), 2);
        due("10 to where it lies", x.move(1, 2), -3);
        due("10 no such THING", x.move(3, 0), -2);
        due("10 no such HOLD", x.move(0, 3), -2);
        due("10 THING below", x.move(-1, 0), -2);
        due("10 HOLD below", x.move(0, -1), -2);
        due("10 no ROOM", x.move(1, 1), -3);
        due("10 it lies as it was", x.told(1, 10), 2);
        text(x, "costs 10*from+to;bell 1;worth 1;");
        x.force(1);
        due("10 from where it lay", x.move(1, 0), 20);
        due("10 and back", x.move(1, 2), 2);
    }

    private static void why() {
        BothHandsFull x = new BothHandsFull();
        x.hold(STEP, 9);
        x.hold(NAIL, 4);
        x.hold(SILL, 9);
        x.thing(50, 1);
        x.thing(11, 2);
        x.thing(60, 2);
        x.thing(20, 0);
        x.part(1, 3, 1);
        due("11 it can", x.why(0, 0), 0);
        due("11 it lies there", x.why(0, 1), 1);
        due("11 ROOM", x.why(1, 1), 2);
        due("11 ROOM of one too large", x.why(2, 1), 2);
        x.set(2, 1, 9);
        due("11 MOST", x.why(1, 1), 3);
        due("11 WET ahead of APART", x.why(1, 0), 4);
        x.set(3, 1, 0);
        due("11 APART", x.why(1, 0), 5);
        due("11 APART the other way", x.why(3, 2), 5);
        due("11 APART from none that lies there", x.why(1, 1), 3);
        due("11 no such THING", x.why(4, 0), -2);
        due("11 no such HOLD", x.why(0, 3), -2);
        due("11 below", x.why(-1, 0), -2);
        due("11 HOLD below", x.why(0, -1), -2);
        x.move(0, 0);
        due("11 none lies there", x.why(1, 1), 0);
        BothHandsFull y = new BothHandsFull();
        y.hold(STEP, 0);
        y.hold(HOLD, 0);
        y.thing(41, 1);
        y.thing(90, 0);
        y.part(0, 1, 1);
        due("11 ROOM ahead of WET", y.why(0, 0), 2);
    }

    private static void open() {
        BothHandsFull x = fullHands();
        due("12 not OPEN", x.open(0), 0);
        due("12 none empty", x.open(1), 0);
        due("12 two can go to the SILL", x.open(2), 2);
        x.move(1, 2);
        due("12 one empty", x.open(1), 1);
        due("12 still not, THE KEY lies on the SILL", x.open(0), 0);
        x.move(0, 0);
        due("12 it is in a HAND, none is free", x.open(0), 0);
        x.move(2, 2);
        due("12 OPEN", x.open(0), 1);
        due("12 HAND by HAND", x.open(1), 1);
        x.set(0, 0, 2);
        due("12 2 must be free", x.open(0), 0);
        x.set(0, 0, 0);
        due("12 none must be", x.open(0), 1);
        x.set(1, 0, -1);
        due("12 no KEY", x.open(0), 0);
        due("12 what above", x.open(3), -2);
        due("12 what below", x.open(-1), -2);
        BothHandsFull y = new BothHandsFull();
        y.hold(KNEE, 9);
        y.thing(10, 0);
        y.set(1, 0, 0);
        y.set(0, 0, 0);
        due("12 a KNEE does not open", y.open(0), 0);
        due("12 nor counts", y.open(1), 0);
    }

    private static int asked(String costs, int thing, int hold) {
        BothHandsFull x = new BothHandsFull();
        x.hold(STEP, 5);
        x.hold(STEP, 5);
        x.hold(HOLD, 5);
        x.thing(10, 1);
        x.thing(40, 2);
        x.thing(30, 1);
        due("13 [" + costs + "]", text(x, "costs " + costs + ";bell 1;worth 1;"), 1);
        x.force(1);
        return x.asks(0, thing, hold);
    }

    private static void asks() {
        due("13 size", asked("size", 1, 0), 4);
        due("13 from", asked("from", 1, 0), 2);
        due("13 to", asked("to", 1, 1), 1);
        due("13 thing", asked("thing", 2, 0), 2);
        due("13 many", asked("many", 0, 0), 3);
        due("13 wet", asked("wet", 1, 0), 1);
        due("13 not wet", asked("wet", 0, 2), 0);
        due("13 where it lies", asked("to", 1, 2), 2);
        due("13 bound", asked("100", 0, 0), 99);
        due("13 below 0", asked("1-2", 0, 0), 0);
        due("13 wraps", asked("9999*9999*9999*9999-1", 0, 0), 99);
        due("13 wraps below 0", asked("9999*9999*9999*22", 0, 0), 0);
        due("13 wraps above", asked("9999*9999*22", 0, 0), 0);
        due("13 from the left", asked("20-10-5", 0, 0), 5);
        due("13 * ahead of +", asked("2+3*4", 0, 0), 14);
        due("13 ( )", asked("(2+3)*4", 0, 0), 20);
        due("13 - ahead", asked("--5+-2", 0, 0), 3);
        due("13 <", asked("1<2", 0, 0), 1);
        due("13 not <", asked("2<2", 0, 0), 0);
        due("13 < of signs", asked("-1<0", 0, 0), 1);
        due("13 =", asked("2=1+1", 0, 0), 1);
        due("13 and", asked("7 and 5", 0, 0), 1);
        due("13 and 0", asked("7 and 0", 0, 0), 0);
        due("13 or", asked("0 or 5", 0, 0), 1);
        due("13 or 0", asked("0 or 0", 0, 0), 0);
        due("13 not", asked("not 5", 0, 0), 0);
        due("13 not 0", asked("not 0", 0, 0), 1);
        due("13 not not", asked("not not 9", 0, 0), 1);
        due("13 not of all of <", asked("not 5 < 3", 0, 0), 1);
        due("13 and ahead of or", asked("1 or 1 and 0", 0, 0), 1);
        due("13 no or", asked("(9)", 0, 0), 9);
        due("13 not ends at and", asked("not 1 and 0", 0, 0), 0);
        BothHandsFull x = fullHands();
        text(x, "costs 1;bell 9000+size+from+to+thing+wet-many;worth 100*size+10*thing+from+1000*to+5000*wet;");
        x.force(1);
        due("13 bell knows but many", x.asks(1, 2, 2), 8997);
        due("13 bell asks of nothing", x.asks(1, -7, 99), 8997);
        due("13 worth", x.asks(2, 2, 99), 221);
        due("13 worth of no such", x.asks(2, 3, 0), -1);
        due("13 worth below", x.asks(2, -1, 0), -1);
        due("13 costs of no such THING", x.asks(0, 3, 0), -1);
        due("13 costs of no such HOLD", x.asks(0, 0, 3), -1);
        due("13 costs below", x.asks(0, 0, -1), -1);
        due("13 no such part", x.asks(3, 0, 0), -1);
        due("13 part below", x.asks(-1, 0, 0), -1);
        text(x, "costs 1;bell 9999*2;worth 1000;");
        x.force(2);
        due("13 bound of bell", x.asks(1, 0, 0), 9999);
        due("13 bound of worth", x.asks(2, 0, 0), 999);
        text(x, "costs 1;bell -1;worth -1;");
        x.force(3);
        due("13 bell below 0", x.asks(1, 0, 0), 0);
        due("13 worth below 0", x.asks(2, 0, 0), 0);
    }

    private static void best() {
        BothHandsFull x = fullHands();
        due("14 FEWEST", x.best(0), 3);
        due("14 FIRST", x.best(1), 12);
        due("14 LEAST", x.best(2), 7);
        due("14 CHEAP", x.best(3), 12);
        due("14 REACHED", x.best(4), 13);
        due("14 FARTHEST", x.best(5), 3);
        due("14 what above", x.best(6), -100);
        due("14 what below", x.best(-1), -100);
        due("14 nothing has moved", x.told(1, 10), 0);
        x.set(0, 0, 2);
        due("14 it can't be", x.best(0), -1);
        due("14 nor FIRST", x.best(1), -1);
        due("14 nor LEAST", x.best(2), -1);
        due("14 nor CHEAP", x.best(3), -1);
        due("14 nor FARTHEST", x.best(5), -1);
        due("14 REACHED all the same", x.best(4), 13);
        x.set(0, 0, 1);
        x.move(1, 2);
        x.move(2, 2);
        due("14 THE KEY alone", x.best(1), 0);
        x.move(0, 1);
        due("14 OPEN", x.best(0), 0);
        due("14 OPEN: no FIRST", x.best(1), -1);
        due("14 OPEN: LEAST", x.best(2), 0);
        due("14 OPEN: no CHEAP", x.best(3), -1);
        x.set(1, 0, -1);
        due("14 no KEY", x.best(0), -1);
        BothHandsFull y = new BothHandsFull();
        due("14 nothing: one STATE", y.best(4), 1);
        due("14 nothing: never", y.best(0), -1);
    }

    private static void bestByCost() {
        // By the short way it costs 99; by the long one, over the HOLD, 4.
        BothHandsFull x = new BothHandsFull();
        x.hold(SILL, 0);
        x.hold(HAND, 0);
        x.hold(HOLD, 0);
        x.thing(10, 0);
        x.set(1, 0, 0);
        x.set(0, 0, 0);
        text(x, "costs 2+97*(from=0 and to=1);bell 3;worth 1;");
        x.force(1);
        due("14 FEWEST by the short way", x.best(0), 1);
        due("14 FIRST by the short way", x.best(1), 1);
        due("14 LEAST by the long way", x.best(2), 4);
        due("14 CHEAP by the long way", x.best(3), 2);
        // Where nothing costs anything it is far all the same.
        BothHandsFull y = fullHands();
        text(y, "costs 0;bell 1;worth 1;");
        y.force(1);
        due("14 LEAST 0, not OPEN", y.best(2), 0);
        due("14 CHEAP of 0", y.best(3), 12);
        due("14 FEWEST does not ask it", y.best(0), 3);
    }

    private static void pack() {
        BothHandsFull x = fullHands();
        due("15 the bag had better lain on the SILL", x.pack(1, 0), 2);
        due("15 FEWEST then", x.pack(1, 1), 2);
        due("15 no other place for THE KEY", x.pack(0, 0), 2);
        due("15 FEWEST as it is", x.pack(0, 1), 3);
        due("15 all lies as it did", x.told(1, 10), 0);
        due("15 no such THING", x.pack(3, 0), -2);
        due("15 below", x.pack(-1, 0), -2);
        due("15 what above", x.pack(0, 2), -2);
        due("15 what below", x.pack(0, -1), -2);
        x.set(1, 0, -1);
        due("15 NONE", x.pack(0, 0), -1);
        due("15 NONE, no FEWEST", x.pack(0, 1), -1);
        // A THING that can't come out by moves can be packed elsewhere.
        BothHandsFull y = new BothHandsFull();
        y.hold(HAND, 0);
        y.hold(HAND, 0);
        y.thing(30, 0);
        y.thing(30, 1);
        y.set(1, 0, 0);
        due("15 both full", y.pack(0, 0), -1);
        y.set(0, 0, 0);
        due("15 of like ones the first", y.pack(0, 0), 0);
    }

    private static void ring() {
        BothHandsFull x = fullHands();
        due("16 not to ring", x.ring(0), 0);
        due("16 costs LEAST", x.ring(1), 7);
        text(x, "costs size;bell 7;worth 1;");
        text(x, "costs size;bell many+2;worth 1;");
        x.force(1);
        due("16 as much is not less", x.ring(0), 0);
        due("16 as much", x.ring(1), 7);
        x.force(2);
        due("16 to ring", x.ring(0), 1);
        due("16 costs bell", x.ring(1), 5);
        x.force(0);
        x.set(0, 0, 3);
        due("16 it can't be", x.ring(0), 1);
        due("16 it can't be: bell", x.ring(1), 20);
        due("16 what above", x.ring(2), -2);
        due("16 what below", x.ring(-1), -2);
    }

    private static void leave() {
        BothHandsFull x = fullHands();
        due("17 all is worth too much", x.leave(), -1);
        text(x, "costs size;bell 1;worth 4-size;");
        text(x, "costs size;bell 1;worth 3*(thing=1)+from;");
        text(x, "costs size;bell 1;worth size;");
        text(x, "costs size;bell 1;worth 0;");
        x.force(1);
        due("17 the bag", x.leave(), 1);
        x.force(2);
        due("17 the box", x.leave(), 2);
        x.force(3);
        due("17 as much is not less", x.leave(), -1);
        x.force(4);
        due("17 it lies where it did", x.told(1, 10), 0);
        x.set(1, 0, 1);
        due("17 not THE KEY", x.leave(), 2);
        x.set(1, 0, -1);
        due("17 no KEY", x.leave(), -1);
        BothHandsFull y = new BothHandsFull();
        y.hold(HAND, 0);
        y.hold(HAND, 0);
        y.thing(30, 0);
        y.thing(20, 1);
        y.thing(10, 1);
        y.set(1, 0, 2);
        due("17 LEAST was NONE, 0 then", y.leave(), 0);
        y.set(0, 0, 2);
        due("17 by none it could be", y.leave(), -1);
        y.set(0, 0, 0);
        due("17 it is OPEN", y.leave(), -1);
        BothHandsFull z = new BothHandsFull();
        z.hold(HAND, 0);
        z.hold(HAND, 0);
        z.thing(30, 0);
        z.thing(10, 1);
        z.set(1, 0, 1);
        due("17 LEAST was NONE", z.leave(), 0);
        // Against 9: without the first 7 and 2, the second 6 and 1, the third 6 and 0.
        BothHandsFull w = new BothHandsFull();
        w.hold(HAND, 5);
        w.hold(HAND, 9);
        w.hold(SILL, 9);
        w.thing(10, 2);
        w.thing(20, 0);
        w.thing(30, 0);
        w.thing(30, 0);
        w.thing(90, 1);
        w.set(1, 0, 0);
        text(w, "costs size;bell 1;worth 2*(thing<4)-(thing=2)-5*(thing=3)+900*(thing=4);");
        w.force(1);
        due("17 LEAST", w.best(2), 9);
        due("17 the third helps most", w.leave(), 3);
        due("17 nothing at all", new BothHandsFull().leave(), -1);
    }

    private static void roomy() {
        BothHandsFull x = fullHands();
        due("18 THE KEY beside the box", x.roomy(0), 1);
        due("18 LEAST then", x.roomy(1), 5);
        due("18 ROOM is as it was", x.told(1, 2), 3);
        due("18 LEAST is as it was", x.best(2), 7);
        due("18 what above", x.roomy(2), -2);
        due("18 what below", x.roomy(-1), -2);
        x.set(0, 0, 3);
        due("18 NONE", x.roomy(0), -1);
        due("18 NONE, no LEAST", x.roomy(1), -1);
        BothHandsFull y = new BothHandsFull();
        y.hold(HAND, 0);
        y.hold(HAND, 0);
        y.hold(NAIL, 0);
        y.thing(30, 0);
        y.thing(20, 1);
        y.thing(10, 2);
        y.set(1, 0, 2);
        due("18 LEAST was NONE", y.best(2), -1);
        due("18 it stays so", y.roomy(0), -1);
        y.set(0, 0, 0);
        due("18 of 0 FREE it is as dear", y.roomy(0), -1);
        BothHandsFull z = new BothHandsFull();
        z.hold(HAND, 0);
        z.hold(HAND, 0);
        z.thing(20, 0);
        z.thing(20, 1);
        z.set(1, 0, 1);
        due("18 LEAST was NONE, too", z.best(2), -1);
        due("18 of like ones the first", z.roomy(0), 0);
        due("18 both in one HAND", z.roomy(1), 2);
        due("18 no HOLD", new BothHandsFull().roomy(0), -1);
    }

    private static void judge() {
        BothHandsFull x = fullHands();
        row(x, 0, 0, 12, 22, 0);
        due("19 all can be", x.judge(0, 0), -1);
        due("19 they cost", x.judge(0, 1), 7);
        due("19 OPEN then", x.judge(0, 2), 1);
        due("19 but in thought", x.told(1, 10), 0);
        row(x, 1, 2, 12, 12, 22, 0);
        due("19 the second can't", x.judge(1, 0), 1);
        due("19 what was ahead costs", x.judge(1, 1), 3);
        due("19 not OPEN then", x.judge(1, 2), 0);
        row(x, 2, 1, 12, 22, 0, 99, 12);
        due("19 no such THING", x.judge(2, 0), 3);
        due("19 OPEN ahead of it", x.judge(2, 2), 1);
        row(x, 2, 1, 3);
        due("19 no such HOLD", x.judge(2, 0), 0);
        row(x, 2, 2, -1);
        due("19 below 0", x.judge(2, 0), 0);
        row(x, 2, 2, Integer.MIN_VALUE);
        due("19 far below 0", x.judge(2, 0), 0);
        row(x, 2, 2, Integer.MAX_VALUE);
        due("19 far above", x.judge(2, 0), 0);
        row(x, 2, 2);
        due("19 no MOVES", x.judge(2, 0), -1);
        due("19 they cost nothing", x.judge(2, 1), 0);
        due("19 no such SHEET", x.judge(4, 0), -2);
        due("19 SHEET below", x.judge(-1, 0), -2);
        due("19 no such what", x.judge(0, 3), -2);
        due("19 what below", x.judge(0, -1), -2);
        due("19 missing", x.judge(3, 0), -11);
        due("19 BAD ahead of missing", x.judge(3, 3), -2);
    }

    private static void ways() {
        BothHandsFull x = new BothHandsFull();
        x.hold(HOLD, 0);
        x.hold(HOLD, 0);
        x.hold(HOLD, 0);
        x.thing(10, 0);
        row(x, 0, 0, 0);
        row(x, 1, 1, 1);
        // Of three HOLDS in a ring: rows that come back, and rows that don't.
        long[] back = {1, 0, 2, 2, 6, 10, 22, 42, 86};
        long[] away = {0, 1, 1, 3, 5, 11, 21, 43, 85};
        for (int n = 0; n <= 8; n++) {
            due("20 back, of " + n, x.ways(0, n), back[n]);
            due("20 away, of " + n, x.ways(1, n), away[n]);
        }
        due("20 n above", x.ways(0, 9), BothHandsFull.NO);
        due("20 n below", x.ways(0, -1), BothHandsFull.NO);
        due("20 no such SHEET", x.ways(4, 1), BothHandsFull.NO);
        due("20 SHEET below", x.ways(-1, 1), BothHandsFull.NO);
        due("20 missing", x.ways(2, 1), BothHandsFull.NO);
        row(x, 2, 0, 0, 0);
        due("20 another size", x.ways(2, 1), BothHandsFull.NO);
        row(x, 2, 0, 3);
        due("20 no such HOLD", x.ways(2, 1), 0);
        row(x, 2, 0, -1);
        due("20 HOLD below", x.ways(2, 1), 0);
        x.thing(60, 1);
        row(x, 2, 0, 1, 1);
        due("20 they can't lie so", x.ways(2, 2), 0);
        row(x, 2, 0, 2, 2);
        due("20 nor there", x.ways(2, 2), 0);
        row(x, 2, 0, 1, 0);
        due("20 they can change places", x.ways(2, 3), 2);
        BothHandsFull y = new BothHandsFull();
        y.sheet(0, 0, 0);
        due("20 nothing, of 0", y.ways(0, 0), 1);
        due("20 nothing, of 8", y.ways(0, 8), 0);
    }

    private static void soonest() {
        BothHandsFull x = fullHands();
        row(x, 0, 0, 2, 0, 1);
        due("21 as it is", x.soonest(0), 0);
        row(x, 0, 0, 0, 2, 2);
        due("21 by 3", x.soonest(0), 3);
        row(x, 0, 0, 2, 1, 0);
        due("21 they change HANDS", x.soonest(0), 3);
        row(x, 0, 0, 0, 0, 0);
        due("21 they can't lie so", x.soonest(0), -1);
        row(x, 0, 0, 3, 0, 1);
        due("21 no such HOLD", x.soonest(0), -1);
        row(x, 0, 2, Integer.MIN_VALUE, 0, 1);
        due("21 HOLD far below", x.soonest(0), -1);
        row(x, 0, 0, 2, 0);
        due("21 another size", x.soonest(0), -2);
        due("21 missing", x.soonest(1), -11);
        due("21 no such SHEET", x.soonest(4), -2);
        due("21 SHEET below", x.soonest(-1), -2);
        // So narrow that two THINGS change places only after 8 MOVES, and after 9 from beside.
        BothHandsFull z = new BothHandsFull();
        z.hold(HAND, 3);
        z.hold(HOLD, 2);
        z.hold(HOLD, 3);
        z.thing(60, 2);
        z.thing(40, 1);
        z.thing(40, 0);
        z.thing(20, 2);
        row(z, 0, 0, 1, 2, 0, 2);
        due("21 by 8", z.soonest(0), 8);
        due("21 by 7 in no way", z.ways(0, 7), 0);
        due("21 by 8 in two", z.ways(0, 8), 2);
        z.move(3, 0);
        due("21 more than 8", z.soonest(0), -1);
        due("21 by 8 in no way", z.ways(0, 8), 0);
        BothHandsFull y = new BothHandsFull();
        for (int i = 0; i < 5; i++) {
            y.hold(NAIL, 9);
        }
        for (int i = 0; i < 4; i++) {
            y.thing(10, i);
        }
        row(y, 0, 0, 1, 0, 3, 2);
        due("21 two pairs change places", y.soonest(0), 6);
        row(y, 0, 0, 1, 2, 3, 0);
        due("21 all go round", y.soonest(0), 5);
    }

    /** THE KEY in the only HAND or beside it, by the letter of the document. */
    private static int drawnByHand(int seed, int n, boolean open) {
        int z = seed;
        int lies = open ? 1 : 0;
        for (int i = 0; i <= n; i++) {
            if (lies == 1) {
                return i;
            }
            z = z * 1103515245 + 12345;
            lies = (z >>> 17) % 3;
        }
        return -1;
    }

    private static void drawn() {
        BothHandsFull x = new BothHandsFull();
        x.hold(HOLD, 0);
        x.hold(HAND, 0);
        x.hold(SILL, 0);
        x.thing(10, 0);
        x.set(1, 0, 0);
        x.set(0, 0, 0);
        for (int seed = -40; seed < 40; seed++) {
            due("22 seed " + seed, x.drawn(seed, 40), drawnByHand(seed, 40, false));
            due("22 but once, seed " + seed, x.drawn(seed, 1), drawnByHand(seed, 1, false));
        }
        due("22 in thought", x.told(0, 10), 0);
        due("22 n 0", x.drawn(1, 0), -2);
        due("22 n above", x.drawn(1, 41), -2);
        due("22 n below", x.drawn(1, -1), -2);
        x.move(0, 1);
        due("22 as it is", x.drawn(1, 1), 0);
        x.set(1, 0, -1);
        due("22 never", x.drawn(1, 40), -1);
        due("22 nothing", new BothHandsFull().drawn(1, 40), -1);
    }

    private static void chance() {
        BothHandsFull x = new BothHandsFull();
        x.hold(HOLD, 0);
        x.hold(HAND, 0);
        x.hold(HAND, 0);
        x.hold(HAND, 0);
        for (int i = 0; i < 5; i++) {
            x.thing(10, i % 4);
        }
        x.set(1, 0, 0);
        x.set(0, 0, 2);
        int[] seeds = {0, 7, -3, Integer.MAX_VALUE - 4};
        for (int seed : seeds) {
            for (int n = 1; n <= 20; n++) {
                int hits = 0;
                for (int i = 0; i < n; i++) {
                    hits += x.drawn(seed + i, 40) >= 0 ? 1 : 0;
                }
                long above = x.chance(seed, n, 0);
                long below = x.chance(seed, n, 1);
                due("23 of " + n + " from " + seed, above * n, hits * below);
                long common = 1;
                for (long d = 2; d <= below; d++) {
                    common = above % d == 0 && below % d == 0 ? d : common;
                }
                due("23 in lowest terms", common, 1);
            }
        }
        due("23 n 0", x.chance(0, 0, 0), BothHandsFull.NO);
        due("23 n above", x.chance(0, 21, 0), BothHandsFull.NO);
        due("23 n below", x.chance(0, -1, 0), BothHandsFull.NO);
        due("23 part above", x.chance(0, 1, 2), BothHandsFull.NO);
        due("23 part below", x.chance(0, 1, -1), BothHandsFull.NO);
        x.set(0, 0, 3);
        due("23 never: 0", x.chance(0, 20, 0), 0);
        due("23 never: of 1", x.chance(0, 20, 1), 1);
        x.set(0, 0, 0);
        x.move(0, 1);
        due("23 always: 1", x.chance(0, 20, 0), 1);
        due("23 always: of 1", x.chance(0, 20, 1), 1);
    }

    private static void image() {
        BothHandsFull x = fullHands();
        due("25 there is none", x.back(), -3);
        text(x, "costs 7;bell 8;worth 9;");
        x.part(0, 1, 1);
        x.set(0, 0, 2);
        due("24 how many THINGS", x.image(), 3);
        x.set(2, 0, 9);
        x.move(2, 0);
        x.set(3, 2, 1);
        x.part(0, 1, 0);
        x.part(0, 2, 1);
        x.set(1, 0, 2);
        x.set(0, 0, 0);
        x.force(1);
        x.hold(NAIL, 5);
        x.thing(10, 3);
        x.part(3, 1, 1);
        row(x, 0, 0, 5);
        x.feed(99);
        due("25 how many THINGS", x.back(), 3);
        due("25 HOLDS that came since go", x.count(0), 3);
        due("25 THINGS too", x.count(1), 3);
        due("25 NUMBER", x.told(0, 1), 0);
        due("25 ROOM", x.told(0, 2), 3);
        due("25 where it lies", x.told(2, 10), 1);
        due("25 DRY", x.told(2, 9), 0);
        due("25 APART", x.told(0, 11), 2);
        due("25 APART from one that went", x.told(1, 11), 1);
        due("25 THE KEY", x.count(3), 0);
        due("25 FREE", x.count(2), 2);
        due("25 THE RULE", x.count(6), 0);
        due("25 TEXTS stay", x.count(4), 2);
        due("25 THE TAPE stays", x.count(5), 1);
        due("25 SHEETS stay", x.cell(0, 0, 1), 1);
        due("25 another HOLD has its number", x.hold(STEP, 1), 3);
        due("25 and its own KIND", x.told(3, 0), STEP);
        due("25 another THING too", x.thing(20, 3), 3);
        due("25 it is APART from none", x.told(3, 11), 0);
        due("25 once more", x.back(), 3);
        due("25 they went again", x.count(0), 3);
        x.set(1, 0, -1);
        x.move(2, 2);
        due("24 a new one", x.image(), 3);
        x.set(1, 0, 1);
        x.back();
        due("25 as in the new one", x.count(3), -1);
        due("25 there it lies", x.told(2, 10), 2);
    }

    private static void count() {
        BothHandsFull x = fullHands();
        x.thing(10, 2);
        x.set(0, 0, 2);
        x.set(1, 0, 3);
        text(x, "costs 7;bell 8;worth 9;");
        text(x, "costs 7;bell 8;worth 9;");
        x.force(1);
        feed(x, "abcdefg");
        int[] want = {3, 4, 2, 3, 3, 7, 1};
        for (int what = 0; what < want.length; what++) {
            due("26 what " + what, x.count(what), want[what]);
        }
        due("26 above", x.count(7), -2);
        due("26 below", x.count(-1), -2);
    }

    private static void sheet() {
        BothHandsFull x = new BothHandsFull();
        due("27 bytes", x.sheet(0, 0, 40), 1);
        due("27 shorts", x.sheet(3, 1, 1), 1);
        due("27 ints", x.sheet(1, 2, 0), 1);
        due("27 no such", x.sheet(4, 0, 1), -2);
        due("27 below", x.sheet(-1, 0, 1), -2);
        due("27 sort above", x.sheet(0, 3, 1), -2);
        due("27 sort below", x.sheet(0, -2, 1), -2);
        due("27 too long", x.sheet(0, 0, 41), -2);
        due("27 below 0", x.sheet(0, 0, -1), -14);
        due("27 BAD ahead of that", x.sheet(4, 0, -1), -2);
        due("27 it stayed", x.cell(0, 39, 1), 1);
        due("27 missing, n does not matter", x.sheet(0, -1, 99), 1);
        due("27 it is", x.cell(0, 0, 0), -11);
        due("27 missing, n below 0", x.sheet(0, -1, -9), 1);
        x.hold(HOLD, 9);
        x.thing(10, 0);
        row(x, 0, 2, 5);
        x.sheet(0, 2, 1);
        due("27 all 0 again", x.ways(0, 0), 1);
    }

    private static void cell() {
        BothHandsFull x = new BothHandsFull();
        x.hold(HOLD, 9);
        x.thing(10, 0);
        x.sheet(0, 0, 2);
        due("28 first", x.cell(0, 0, 7), 1);
        due("28 last", x.cell(0, 1, 7), 1);
        due("28 outside", x.cell(0, 2, 7), -12);
        due("28 below", x.cell(0, -1, 7), -12);
        due("28 no such", x.cell(4, 0, 7), -2);
        due("28 SHEET below", x.cell(-1, 0, 7), -2);
        due("28 missing", x.cell(1, 0, 7), -11);
        due("28 missing ahead of outside", x.cell(1, 50, 7), -11);
        row(x, 0, 0, 256);
        due("28 bytes, the lowest 8 bits", x.ways(0, 0), 1);
        row(x, 0, 0, 128);
        due("28 128 is no HOLD", x.ways(0, 0), 0);
        row(x, 0, 1, 65536);
        due("28 shorts, the lowest 16", x.ways(0, 0), 1);
        row(x, 0, 1, 256);
        due("28 shorts keep 256", x.ways(0, 0), 0);
        row(x, 0, 2, 65536);
        due("28 ints keep all", x.ways(0, 0), 0);
    }

    private static void copy() {
        BothHandsFull x = fullHands();
        row(x, 0, 0, 12, 22, 0, 12, 13);
        row(x, 1, 0, 1, 2, 3, 4, 5);
        row(x, 2, 1, 1, 2, 3);
        due("29 three", x.copy(0, 0, 1, 2, 3), 3);
        due("29 that came", x.copy(1, 2, 1, 0, 3), 3);
        due("29 a SHEET to itself", x.judge(1, 1), 7);
        row(x, 3, 0, 12, 22, 0, 0, 0);
        due("29 overlapping", x.copy(3, 0, 3, 1, 4), 4);
        due("29 as they were", x.judge(3, 0), 1);
        due("29 back again", x.copy(3, 1, 3, 0, 4), 4);
        due("29 as they were, too", x.judge(3, 0), 3);
        due("29 none", x.copy(0, 5, 1, 5, 0), 0);
        due("29 below 0", x.copy(0, 0, 1, 0, -1), -12);
        due("29 outside", x.copy(0, 3, 1, 0, 3), -12);
        due("29 outside there", x.copy(0, 0, 1, 3, 3), -12);
        due("29 from below", x.copy(0, -1, 1, 0, 1), -12);
        due("29 to below", x.copy(0, 0, 1, -1, 1), -12);
        due("29 far outside", x.copy(0, Integer.MAX_VALUE, 1, 0, 1), -12);
        due("29 far too many", x.copy(0, 1, 1, 1, Integer.MAX_VALUE), -12);
        due("29 none, behind the end", x.copy(0, 6, 1, 0, 0), -12);
        due("29 unlike", x.copy(0, 0, 2, 0, 1), -13);
        due("29 unlike ahead of outside", x.copy(0, 0, 2, 0, 99), -13);
        due("29 no such", x.copy(4, 0, 0, 0, 1), -2);
        due("29 no such other", x.copy(0, 0, 4, 0, 1), -2);
        due("29 below", x.copy(-1, 0, 0, 0, 1), -2);
        due("29 other below", x.copy(0, 0, -1, 0, 1), -2);
        x.sheet(3, -1, 0);
        due("29 missing", x.copy(3, 0, 0, 0, 1), -11);
        due("29 other missing", x.copy(0, 0, 3, 0, 1), -11);
        due("29 missing ahead of unlike", x.copy(2, 0, 3, 0, 1), -11);
    }

    private static void things() {
        BothHandsFull x = new BothHandsFull();
        x.hold(HOLD, 0);
        x.hold(STEP, 0);
        row(x, 0, 1, 20, 0, 31, 1, 10, 1, 50, 0, 40, 0, 9);
        due("30 two came", x.things(0, 1, 0, 3), 2);
        due("30 the first", x.told(0, 8), 2);
        due("30 the third", x.told(1, 10), 1);
        due("30 none of 0", x.things(0, 1, 0, 0), 0);
        due("30 from within", x.things(0, 1, 7, 1), 0);
        due("30 one came ahead of the end", x.things(0, 1, 8, 3), -12);
        due("30 it is there", x.count(1), 3);
        due("30 half a pair is outside", x.things(0, 1, 10, 1), -12);
        due("30 from below", x.things(0, 1, -1, 1), -12);
        due("30 far outside", x.things(0, 1, Integer.MAX_VALUE, 1), -12);
        due("30 far below", x.things(0, 1, Integer.MIN_VALUE, 5), -12);
        due("30 another sort", x.things(0, 0, 0, 1), -13);
        due("30 another sort ahead of outside", x.things(0, 2, 99, 1), -13);
        due("30 missing", x.things(1, 1, 0, 1), -11);
        due("30 no such", x.things(4, 1, 0, 1), -2);
        due("30 below", x.things(-1, 1, 0, 1), -2);
        due("30 sort above", x.things(0, 3, 0, 1), -2);
        due("30 sort below", x.things(0, -1, 0, 1), -2);
        due("30 n above", x.things(0, 1, 0, 6), -2);
        due("30 n below", x.things(0, 1, 0, -1), -2);
        x.sheet(0, -1, 0);
        due("30 missing is of no sort", x.things(0, 0, 0, 0), -11);
        row(x, 0, 2, 10, 1, 10, 1, 10, 1, 10, 1, 10, 1);
        due("30 till there are five", x.things(0, 2, 0, 5), 2);
        BothHandsFull y = new BothHandsFull();
        y.hold(HOLD, 9);
        y.hold(SILL, 9);
        row(y, 0, 0, 9, 10, 0, 21, 1, 30, 0, 40, 1, 51, 0);
        due("30 five, one behind the other", y.things(0, 0, 1, 5), 5);
        for (int t = 0; t < 5; t++) {
            due("30 SIZE of " + t, y.told(t, 8), t + 1);
            due("30 DRY of " + t, y.told(t, 9), t == 1 || t == 4 ? 1 : 0);
            due("30 HOLD of " + t, y.told(t, 10), t % 2);
        }
    }

    private static void taken() {
        int[][] above = {{0}, {0, 1}, {0, 2}, {0, 1, 3}, {0, 2, 4}, {0, 2, 5}};
        for (int kind = 0; kind < 6; kind++) {
            BothHandsFull x = new BothHandsFull();
            x.hold(kind, 7);
            for (int k = 0; k < 6; k++) {
                boolean fits = false;
                for (int a : above[kind]) {
                    fits |= a == k;
                }
                due("31 KIND " + kind + " for " + k, x.taken(0, k), fits ? 7 : -13);
            }
            due("31 k above", x.taken(0, 6), -2);
            due("31 k below", x.taken(0, -1), -2);
            due("31 no such HOLD", x.taken(1, 0), -11);
            due("31 HOLD below", x.taken(-1, 0), -11);
            due("31 BAD ahead of that", x.taken(1, 6), -2);
        }
    }

    /** No call throws, whatever it is given; what it is not due to do, it does not. */
    private static void wild() {
        for (int a : WILD) {
            for (int b : WILD) {
                BothHandsFull x = fullHands();
                row(x, 0, 2, 2, 0, 1);
                int calls = x.hold(a, b) + x.thing(a, b) + x.part(a, b, a) + x.told(a, b) + x.feed(a) + x.force(a);
                due("wild refusals", calls, -2 - 2 - 2 - 100 - 2 - 2);
                for (int c : WILD) {
                    due("wild set", x.set(a, b, c), -100);
                    due("wild asks", x.asks(a, b, c), -1);
                    due("wild copy", x.copy(0, a, 0, b, c), -12);
                    due("wild things", x.things(a, b, c, a), -2);
                    due("wild things of one", x.things(0, 2, a, 1), -12);
                }
                calls = x.move(a, b) + x.why(a, b) + x.open(a) + x.pack(a, b) + x.ring(a) + x.roomy(a);
                due("wild refusals of best", calls, -12);
                due("wild best", x.best(a), -100);
                calls = x.judge(a, b) + x.soonest(a) + x.drawn(a, b) + x.count(a) + x.sheet(a, b, a) + x.taken(b, a);
                due("wild refusals of told", calls, -12);
                due("wild ways", x.ways(a, b), BothHandsFull.NO);
                due("wild chance", x.chance(a, b, 0), BothHandsFull.NO);
                due("wild cell", x.cell(0, a, b), -12);
                due("all is as it was", x.best(2), 7);
            }
        }
    }
}
