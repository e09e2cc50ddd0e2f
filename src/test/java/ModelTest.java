import java.util.ArrayDeque;
import java.util.ArrayList;
import java.util.HashMap;
import java.util.List;
import java.util.Map;
import java.util.PriorityQueue;
import java.util.Random;

/** Long runs of drawn calls: every answer is held against a second, plain program. */
public final class ModelTest {
    private static final int RUNS = 400;
    private static final int TEXT_ROUNDS = 3000;
    private static int wrong = 0;

    public static void main(String[] args) {
        for (int i = 0; i < TEXT_ROUNDS && wrong < 10; i++) {
            new Run(1000000 + i).texts();
        }
        for (int i = 0; i < RUNS && wrong < 10; i++) {
            new Run(i).mixed();
        }
        System.out.println(wrong == 0 ? "the model agrees" : wrong + " answers are not the model's");
        if (wrong != 0) {
            System.exit(1);
        }
    }

    /** One run of calls, drawn by a fixed seed. */
    private static final class Run {
        private final Random random;
        private final BothHandsFull real = new BothHandsFull();
        private final Model model = new Model();
        private final List<String> said = new ArrayList<>();
        private final int seed;
        private boolean broken;

        Run(int seed) {
            this.seed = seed;
            this.random = new Random(seed);
        }

        private void same(String call, long got, long want) {
            said.add(call + " = " + want);
            if (got != want && !broken) {
                broken = true;
                wrong++;
                System.out.println("run " + seed + ": " + call + " answered " + got + ", the model says " + want);
                System.out.println("  behind " + said);
            }
        }

        private int upTo(int n) {
            return random.nextInt(n + 1);
        }

        /** Mostly 0 .. n - 1, at times just outside. */
        private int near(int n) {
            return random.nextInt(12) == 0 ? (random.nextBoolean() ? -1 : n) : random.nextInt(Math.max(1, n));
        }

        private void feedAll(String text) {
            for (int i = 0; i < text.length(); i++) {
                int c = text.charAt(i);
                same("feed(" + c + ")", real.feed(c), model.feed(c));
            }
        }

        void texts() {
            int left = 510;
            real.hold(1, 3);
            model.hold(1, 3);
            real.thing(21, 0);
            model.thing(21, 0);
            left -= 2;
            for (int i = 0; i < 9; i++) {
                String text = drawText();
                if (left < text.length() + 6) {
                    return;
                }
                feedAll(text);
                said.add("[" + text + "]");
                int n = model.text();
                same("text()", real.text(), n);
                left -= text.length() + 1;
                if (n >= 0) {
                    same("force(" + n + ")", real.force(n), model.force(n));
                    for (int part = 0; part < 3; part++) {
                        same("asks(" + part + ", 0, 0)", real.asks(part, 0, 0), model.asks(part, 0, 0));
                    }
                    left -= 4;
                }
            }
        }

        private String drawText() {
            StringBuilder text = new StringBuilder();
            String[] keys = {"costs", "bell", "worth"};
            for (String key : keys) {
                text.append(key).append(gap(true)).append(either(upTo(3))).append(gap(false)).append(";").append(gap(false));
            }
            int faults = random.nextInt(3) == 0 ? 0 : upTo(2);
            for (int i = 0; i < faults && text.length() > 0; i++) {
                String[] bits = {"(", ")", ";", "+", "-", "*", "<", "=", " ", "\n", "not ", " or ", " and ", "size", "1",
                    "99999", "x", "@", "\t", "bell", "\u00e9", "- - ", "not not ", "((", "A", "0000", "{"};
                int at = random.nextInt(text.length());
                switch (random.nextInt(3)) {
                    case 0:
                        text.insert(at, bits[random.nextInt(bits.length)]);
                        break;
                    case 1:
                        text.deleteCharAt(at);
                        break;
                    default:
                        text.setLength(random.nextInt(4) == 0 ? at : text.length());
                        break;
                }
            }
            return text.length() > 160 ? text.substring(0, 160) : text.toString();
        }

        private String gap(boolean needed) {
            String[] gaps = {" ", "\n", "  ", ""};
            return gaps[random.nextInt(needed ? 3 : 4)];
        }

        private String either(int depth) {
            return both(depth) + (random.nextInt(6) == 0 ? " or " + both(depth) : "");
        }

        private String both(int depth) {
            return negation(depth) + (random.nextInt(6) == 0 ? " and " + negation(depth) : "");
        }

        private String negation(int depth) {
            if (random.nextInt(8) == 0) {
                return "not " + negation(depth);
            }
            return sum(depth) + (random.nextInt(6) == 0 ? (random.nextBoolean() ? "<" : "=") + sum(depth) : "");
        }

        private String sum(int depth) {
            StringBuilder text = new StringBuilder(term(depth));
            for (int i = random.nextInt(5) / 2; i > 0; i--) {
                text.append(random.nextBoolean() ? "+" : "-").append(gap(false)).append(term(depth));
            }
            return text.toString();
        }

        private String term(int depth) {
            StringBuilder text = new StringBuilder(one(depth));
            for (int i = random.nextInt(5) / 3; i > 0; i--) {
                text.append("*").append(one(depth));
            }
            return text.toString();
        }

        private String one(int depth) {
            int which = random.nextInt(10);
            if (which < 4 || depth <= 0) {
                String[] names = {"size", "from", "to", "thing", "many", "wet"};
                return names[random.nextInt(6)];
            }
            if (which < 7) {
                return String.valueOf(random.nextInt(random.nextBoolean() ? 10 : 10000));
            }
            if (which < 8) {
                return "-" + one(depth - 1);
            }
            return "(" + either(depth - 1) + ")";
        }

        void mixed() {
            int calls = 40 + upTo(140);
            int holdsWanted = 1 + upTo(4);
            int thingsWanted = upTo(5);
            if (random.nextInt(3) > 0) {
                for (int i = 0; i < holdsWanted; i++) {
                    int[] kinds = {0, 1, 1, 1, 1, 2, 3, 4, 5};
                    aHold(kinds[random.nextInt(9)], upTo(9));
                }
                for (int i = 0; i < 2 * thingsWanted; i++) {
                    aThing();
                }
                int key = near(model.things.size());
                same("set(1, 0, " + key + ")", real.set(1, 0, key), model.set(1, 0, key));
            }
            if (random.nextInt(2) == 0) {
                String text = drawText();
                feedAll(text);
                same("text()", real.text(), model.text());
                same("force(1)", real.force(1), model.force(1));
                calls = Math.min(calls, 490 - said.size());
            }
            for (int i = 0; i < calls && !broken; i++) {
                aCall();
            }
        }

        private void aHold(int kind, int number) {
            same("hold(" + kind + ", " + number + ")", real.hold(kind, number), model.hold(kind, number));
        }

        private void aThing() {
            int what = random.nextInt(15) == 0 ? random.nextInt(120) - 10 : 10 * (1 + random.nextInt(5)) + random.nextInt(5) / 4;
            int hold = near(model.holds.size());
            same("thing(" + what + ", " + hold + ")", real.thing(what, hold), model.thing(what, hold));
        }

        private int number() {
            switch (random.nextInt(4)) {
                case 0:
                    return 10 * near(5) + near(5);
                case 1:
                    return upTo(4);
                case 2:
                    return 10 * (1 + upTo(5)) + upTo(1);
                default:
                    return random.nextInt(4) == 0 ? random.nextInt() : random.nextInt(100);
            }
        }

        private void aCall() {
            int t = near(model.things.size());
            int h = near(model.holds.size());
            int s = near(4);
            boolean large = model.things.size() * model.holds.size() > 16;
            switch (random.nextInt(36)) {
                case 0:
                    aHold(near(6), near(10));
                    break;
                case 1:
                    aThing();
                    break;
                case 2: {
                    int what = near(4);
                    int of = what == 2 ? h : t;
                    int v = what == 0 ? near(4) : what == 1 ? near(model.things.size()) : what == 2 ? near(10) : near(2);
                    same("set(" + what + ", " + of + ", " + v + ")", real.set(what, of, v), model.set(what, of, v));
                    break;
                }
                case 3: {
                    int o = near(model.things.size());
                    int is = near(2);
                    same("part(" + t + ", " + o + ", " + is + ")", real.part(t, o, is), model.part(t, o, is));
                    break;
                }
                case 4: case 5: case 6: {
                    int what = near(12);
                    int of = what < 8 ? h : t;
                    same("told(" + of + ", " + what + ")", real.told(of, what), model.told(of, what));
                    break;
                }
                case 7: {
                    int text = near(model.texts.size());
                    same("force(" + text + ")", real.force(text), model.force(text));
                    break;
                }
                case 8: case 9: case 10: case 11:
                    same("move(" + t + ", " + h + ")", real.move(t, h), model.move(t, h));
                    break;
                case 12:
                    same("why(" + t + ", " + h + ")", real.why(t, h), model.why(t, h));
                    break;
                case 13: {
                    int what = near(3);
                    same("open(" + what + ")", real.open(what), model.open(what));
                    break;
                }
                case 14: {
                    int part = near(3);
                    same("asks(" + part + ", " + t + ", " + h + ")", real.asks(part, t, h), model.asks(part, t, h));
                    break;
                }
                case 15: case 16: case 17: case 18: {
                    int what = near(6);
                    if (!large || random.nextInt(8) == 0) {
                        same("best(" + what + ")", real.best(what), model.best(what));
                    }
                    break;
                }
                case 19: {
                    int what = near(2);
                    same("pack(" + t + ", " + what + ")", real.pack(t, what), model.pack(t, what));
                    break;
                }
                case 20: {
                    int what = near(2);
                    same("ring(" + what + ")", real.ring(what), model.ring(what));
                    break;
                }
                case 21:
                    same("leave()", real.leave(), model.leave());
                    break;
                case 22: {
                    int what = near(2);
                    if (!large || random.nextInt(3) == 0) {
                        same("roomy(" + what + ")", real.roomy(what), model.roomy(what));
                    }
                    break;
                }
                case 23: {
                    int what = near(3);
                    same("judge(" + s + ", " + what + ")", real.judge(s, what), model.judge(s, what));
                    break;
                }
                case 24: {
                    fit(s);
                    int n = near(9);
                    same("ways(" + s + ", " + n + ")", real.ways(s, n), model.ways(s, n));
                    break;
                }
                case 25:
                    fit(s);
                    same("soonest(" + s + ")", real.soonest(s), model.soonest(s));
                    break;
                case 26: {
                    int seed = random.nextInt();
                    int n = 1 + near(40);
                    same("drawn(" + seed + ", " + n + ")", real.drawn(seed, n), model.drawn(seed, n));
                    break;
                }
                case 27: {
                    int seed = random.nextInt(9) == 0 ? Integer.MAX_VALUE - upTo(5) : random.nextInt();
                    int n = 1 + near(20);
                    int part = near(2);
                    same("chance(" + seed + ", " + n + ", " + part + ")", real.chance(seed, n, part), model.chance(seed, n, part));
                    break;
                }
                case 28:
                    if (random.nextInt(3) == 0) {
                        same("image()", real.image(), model.image());
                    }
                    break;
                case 29:
                    if (random.nextInt(3) == 0) {
                        same("back()", real.back(), model.back());
                    }
                    break;
                case 30: {
                    int what = near(7);
                    same("count(" + what + ")", real.count(what), model.count(what));
                    break;
                }
                case 31: {
                    int sort = random.nextInt(5) - 1;
                    int n = random.nextInt(9) == 0 ? random.nextInt(60) - 10 : upTo(8);
                    same("sheet(" + s + ", " + sort + ", " + n + ")", real.sheet(s, sort, n), model.sheet(s, sort, n));
                    break;
                }
                case 32: {
                    int i = near(8);
                    int v = number();
                    same("cell(" + s + ", " + i + ", " + v + ")", real.cell(s, i, v), model.cell(s, i, v));
                    break;
                }
                case 33: {
                    int i = near(6);
                    int o = near(4);
                    int j = near(6);
                    int n = near(5);
                    same("copy(" + s + ", " + i + ", " + o + ", " + j + ", " + n + ")",
                        real.copy(s, i, o, j, n), model.copy(s, i, o, j, n));
                    break;
                }
                case 34: {
                    int sort = near(3);
                    int from = near(6);
                    int n = near(6);
                    same("things(" + s + ", " + sort + ", " + from + ", " + n + ")",
                        real.things(s, sort, from, n), model.things(s, sort, from, n));
                    break;
                }
                default: {
                    int k = near(6);
                    same("taken(" + h + ", " + k + ")", real.taken(h, k), model.taken(h, k));
                    break;
                }
            }
        }

        /** Mostly a SHEET that tells a HOLD of each THING. */
        private void fit(int s) {
            if (s < 0 || s > 3 || random.nextInt(6) == 0 || said.size() > 480) {
                return;
            }
            int n = model.things.size();
            same("sheet(" + s + ", 0, " + n + ")", real.sheet(s, 0, n), model.sheet(s, 0, n));
            for (int i = 0; i < n; i++) {
                int v = random.nextInt(3) > 0 ? model.things.get(i).hold : near(model.holds.size());
                same("cell(" + s + ", " + i + ", " + v + ")", real.cell(s, i, v), model.cell(s, i, v));
            }
        }
    }

    private static final class Thing {
        final int size;
        int dry;
        int hold;

        Thing(int size, int dry, int hold) {
            this.size = size;
            this.dry = dry;
            this.hold = hold;
        }
    }

    /** A TOKEN with its place. */
    private static final class Token {
        final String word;
        final int place;

        Token(String word, int place) {
            this.word = word;
            this.place = place;
        }

        boolean isOperand() {
            return word.matches("[0-9]{1,4}|size|from|to|thing|many|wet");
        }
    }

    /** What the document says, written down once more, with maps and lists. */
    private static final class Model {
        static final int GONE = 9;
        final List<int[]> holds = new ArrayList<>();
        List<Thing> things = new ArrayList<>();
        boolean[][] apart = new boolean[5][5];
        int key = -1;
        int free = 1;
        int rule = 0;
        StringBuilder tape = new StringBuilder();
        final List<List<List<Token>>> texts = new ArrayList<>();
        final int[][] sheets = new int[4][];
        final int[] sorts = {-1, -1, -1, -1};
        int more = -1;
        boolean imaged;
        int[] imageNumbers;
        List<Thing> imageThings;
        boolean[][] imageApart;
        int imageKey;
        int imageFree;
        int imageRule;

        Model() {
            for (char c : "costs size ; bell 20 ; worth 10 ;".toCharArray()) {
                feed(c);
            }
            if (text() != 0) {
                throw new IllegalStateException("the first text");
            }
        }

        int hold(int kind, int number) {
            if (kind < 0 || kind > 5 || number < 0 || number > 9) {
                return -2;
            }
            if (holds.size() == 5) {
                return -4;
            }
            holds.add(new int[] {kind, number});
            return holds.size() - 1;
        }

        int thing(int what, int hold) {
            if (what < 10 || what > 91 || what % 10 > 1 || hold < 0 || hold >= holds.size()) {
                return -2;
            }
            if (things.size() == 5) {
                return -4;
            }
            things.add(new Thing(what / 10, what % 10, hold));
            if (!may(where())) {
                things.remove(things.size() - 1);
                return -3;
            }
            return things.size() - 1;
        }

        int room(int h) {
            int n = holds.get(h)[1];
            int[] rooms = {n + 6, n + 3, 2 * n + 12, (n + 3) / 2, n + 1, 2 * n + 12};
            return rooms[holds.get(h)[0]] + (h == more ? 1 : 0);
        }

        int most(int h) {
            return new int[] {5, 3, 5, 1, 1, 5}[holds.get(h)[0]];
        }

        boolean wet(int h) {
            return holds.get(h)[0] == 5;
        }

        boolean opens(int h) {
            return holds.get(h)[0] == 1;
        }

        int[] where() {
            int[] where = new int[things.size()];
            for (int t = 0; t < where.length; t++) {
                where[t] = things.get(t).hold;
            }
            return where;
        }

        /** Whether all may lie so. */
        boolean may(int[] where) {
            for (int h = 0; h < holds.size(); h++) {
                int size = 0;
                int many = 0;
                for (int t = 0; t < where.length; t++) {
                    if (where[t] == h) {
                        size += things.get(t).size;
                        many++;
                        if (wet(h) && things.get(t).dry == 1) {
                            return false;
                        }
                        for (int o = 0; o < t; o++) {
                            if (where[o] == h && apart[t][o]) {
                                return false;
                            }
                        }
                    }
                }
                if (size > room(h) || many > most(h)) {
                    return false;
                }
            }
            return true;
        }

        boolean isOpen(int[] where) {
            if (key < 0 || where[key] == GONE || !opens(where[key])) {
                return false;
            }
            return empty(where) >= free;
        }

        int empty(int[] where) {
            int n = 0;
            for (int h = 0; h < holds.size(); h++) {
                boolean used = false;
                for (int w : where) {
                    used |= w == h;
                }
                n += opens(h) && !used ? 1 : 0;
            }
            return n;
        }

        int set(int what, int of, int v) {
            int was;
            if (what == 0 && v >= 0 && v <= 3) {
                was = free;
                free = v;
                return was;
            }
            if (what == 1 && v >= -1 && v < things.size()) {
                was = key;
                key = v;
                return was;
            }
            if (what == 2 && of >= 0 && of < holds.size() && v >= 0 && v <= 9) {
                was = holds.get(of)[1];
                holds.get(of)[1] = v;
                if (!may(where())) {
                    holds.get(of)[1] = was;
                    return -3;
                }
                return was;
            }
            if (what == 3 && of >= 0 && of < things.size() && (v == 0 || v == 1)) {
                was = things.get(of).dry;
                things.get(of).dry = v;
                if (!may(where())) {
                    things.get(of).dry = was;
                    return -3;
                }
                return was;
            }
            return -100;
        }

        boolean isThing(int t) {
            return t >= 0 && t < things.size();
        }

        boolean isHold(int h) {
            return h >= 0 && h < holds.size();
        }

        int part(int t, int o, int is) {
            if (!isThing(t) || !isThing(o) || t == o || is < 0 || is > 1) {
                return -2;
            }
            if (is == 1 && things.get(t).hold == things.get(o).hold) {
                return -3;
            }
            int was = apart[t][o] ? 1 : 0;
            apart[t][o] = is == 1;
            apart[o][t] = is == 1;
            return was;
        }

        int told(int of, int what) {
            if (what >= 0 && what <= 7 && isHold(of)) {
                int bits = 0;
                int left = room(of);
                for (int t = 0; t < things.size(); t++) {
                    if (things.get(t).hold == of) {
                        bits += 1 << t;
                        left -= things.get(t).size;
                    }
                }
                return new int[] {holds.get(of)[0], holds.get(of)[1], room(of), most(of), wet(of) ? 1 : 0,
                    opens(of) ? 1 : 0, bits, left}[what];
            }
            if (what >= 8 && what <= 11 && isThing(of)) {
                int bits = 0;
                for (int o = 0; o < 5; o++) {
                    bits += apart[of][o] ? 1 << o : 0;
                }
                Thing t = things.get(of);
                return new int[] {t.size, t.dry, t.hold, bits}[what - 8];
            }
            return -100;
        }

        int feed(int c) {
            if (c < 0 || c > 255) {
                return -2;
            }
            if (tape.length() == 160) {
                return -4;
            }
            tape.append((char) c);
            return tape.length();
        }

        int text() {
            if (texts.size() == 6) {
                return -4;
            }
            String text = tape.toString();
            tape = new StringBuilder();
            List<Token> tokens = tokens(text);
            int fault = fault(tokens, text.length());
            if (fault >= 0) {
                return -100 - fault;
            }
            List<List<Token>> parts = new ArrayList<>();
            List<Token> part = new ArrayList<>();
            for (Token t : tokens) {
                if (t.word.equals(";")) {
                    parts.add(part.subList(1, part.size()));
                    part = new ArrayList<>();
                } else {
                    part.add(t);
                }
            }
            texts.add(parts);
            return texts.size() - 1;
        }

        private static List<Token> tokens(String text) {
            List<Token> tokens = new ArrayList<>();
            java.util.regex.Matcher m = java.util.regex.Pattern.compile("[a-z]+|[0-9]+|[^ \n]").matcher(text);
            while (m.find()) {
                tokens.add(new Token(m.group(), m.start()));
            }
            return tokens;
        }

        /** By what is open and what was seen, token by token; -1: there is none. */
        private static int fault(List<Token> tokens, int end) {
            String[] keys = {"costs", "bell", "worth"};
            int i = 0;
            for (String key : keys) {
                if (i == tokens.size()) {
                    return end;
                }
                if (!tokens.get(i).word.equals(key)) {
                    return tokens.get(i).place;
                }
                i++;
                // Of each ( that is open, and of none: what is open in it, and whether it was compared.
                ArrayDeque<String> open = new ArrayDeque<>();
                ArrayDeque<Boolean> compared = new ArrayDeque<>();
                compared.push(false);
                boolean operandDue = true;
                boolean notMay = true;
                while (true) {
                    if (i == tokens.size()) {
                        return end;
                    }
                    Token t = tokens.get(i);
                    String w = t.word;
                    if (operandDue) {
                        if (t.isOperand()) {
                            while (!open.isEmpty() && open.peek().equals("-")) {
                                open.pop();
                            }
                            operandDue = false;
                        } else if (w.equals("not") && notMay || w.equals("-") || w.equals("(")) {
                            if (open.size() == 5) {
                                return t.place;
                            }
                            open.push(w);
                            if (w.equals("(")) {
                                compared.push(false);
                            }
                            notMay = !w.equals("-");
                        } else {
                            return t.place;
                        }
                    } else if (w.equals("*") || w.equals("+") || w.equals("-")) {
                        operandDue = true;
                        notMay = false;
                    } else if ((w.equals("<") || w.equals("=")) && !compared.peek()) {
                        compared.pop();
                        compared.push(true);
                        operandDue = true;
                        notMay = false;
                    } else if (w.equals("and") || w.equals("or")) {
                        compared.pop();
                        compared.push(false);
                        while (!open.isEmpty() && open.peek().equals("not")) {
                            open.pop();
                        }
                        operandDue = true;
                        notMay = true;
                    } else if (w.equals(")") && open.contains("(")) {
                        while (!open.pop().equals("(")) {
                            continue;
                        }
                        compared.pop();
                        while (!open.isEmpty() && open.peek().equals("-")) {
                            open.pop();
                        }
                    } else if (w.equals(";") && !open.contains("(")) {
                        break;
                    } else {
                        return t.place;
                    }
                    i++;
                }
                i++;
            }
            return i < tokens.size() ? tokens.get(i).place : -1;
        }

        /** Looks for the last sign that holds the whole together. */
        private int value(List<Token> e, Map<String, Integer> names) {
            String[][] joins = {{"or"}, {"and"}, {"<", "="}, {"+", "-"}, {"*"}};
            for (int k = 0; k < joins.length; k++) {
                if (k == 2 && e.get(0).word.equals("not")) {
                    return value(e.subList(1, e.size()), names) == 0 ? 1 : 0;
                }
                int depth = 0;
                for (int i = e.size() - 1; i > 0; i--) {
                    String w = e.get(i).word;
                    depth += w.equals(")") ? 1 : w.equals("(") ? -1 : 0;
                    Token ahead = e.get(i - 1);
                    boolean joins2 = ahead.isOperand() || ahead.word.equals(")");
                    if (depth == 0 && joins2 && List.of(joins[k]).contains(w)) {
                        int a = value(e.subList(0, i), names);
                        int b = value(e.subList(i + 1, e.size()), names);
                        switch (w) {
                            case "or": return a != 0 || b != 0 ? 1 : 0;
                            case "and": return a != 0 && b != 0 ? 1 : 0;
                            case "<": return a < b ? 1 : 0;
                            case "=": return a == b ? 1 : 0;
                            case "+": return a + b;
                            case "-": return a - b;
                            default: return a * b;
                        }
                    }
                }
            }
            String w = e.get(0).word;
            if (w.equals("-")) {
                return -value(e.subList(1, e.size()), names);
            }
            if (w.equals("(")) {
                return value(e.subList(1, e.size() - 1), names);
            }
            return names.containsKey(w) ? names.get(w) : Integer.parseInt(w);
        }

        private int asked(int part, int size, int from, int to, int thing, int wet) {
            Map<String, Integer> names = new HashMap<>();
            names.put("size", size);
            names.put("from", from);
            names.put("to", to);
            names.put("thing", thing);
            names.put("many", things.size());
            names.put("wet", wet);
            int bound = new int[] {99, 9999, 999}[part];
            int v = value(texts.get(rule).get(part), names);
            return v < 0 ? 0 : v > bound ? bound : v;
        }

        private final Map<Integer, Integer> costs = new HashMap<>();

        int cost(int t, int from, int to) {
            return costs.computeIfAbsent(t * 100 + from * 10 + to,
                k -> asked(0, things.get(t).size, from, to, t, wet(to) ? 1 : 0));
        }

        int bell() {
            return asked(1, 0, 0, 0, 0, 0);
        }

        int worth(int t) {
            return asked(2, things.get(t).size, things.get(t).hold, 0, t, 0);
        }

        int force(int text) {
            if (text < 0 || text >= texts.size()) {
                return -2;
            }
            int was = rule;
            rule = text;
            return was;
        }

        int[] moved(int[] where, int t, int h) {
            int[] then = where.clone();
            then[t] = h;
            return then;
        }

        boolean can(int[] where, int t, int h) {
            return isThing(t) && isHold(h) && where[t] != GONE && where[t] != h && may(moved(where, t, h));
        }

        int move(int t, int h) {
            costs.clear();
            if (!isThing(t) || !isHold(h)) {
                return -2;
            }
            if (!can(where(), t, h)) {
                return -3;
            }
            int cost = cost(t, things.get(t).hold, h);
            things.get(t).hold = h;
            return cost;
        }

        int why(int t, int h) {
            if (!isThing(t) || !isHold(h)) {
                return -2;
            }
            int used = 0;
            int many = 0;
            boolean foe = false;
            for (int o = 0; o < things.size(); o++) {
                if (o != t && things.get(o).hold == h) {
                    used += things.get(o).size;
                    many++;
                    foe |= apart[t][o];
                }
            }
            Thing it = things.get(t);
            return it.hold == h ? 1 : used + it.size > room(h) ? 2 : many + 1 > most(h) ? 3
                : it.dry == 1 && wet(h) ? 4 : foe ? 5 : 0;
        }

        int open(int what) {
            if (what == 0) {
                return isOpen(where()) ? 1 : 0;
            }
            if (what == 1) {
                return empty(where());
            }
            return what == 2 ? after(where()).size() : -2;
        }

        int asks(int part, int t, int h) {
            costs.clear();
            if (part == 0 && isThing(t) && isHold(h)) {
                return cost(t, things.get(t).hold, h);
            }
            if (part == 1) {
                return bell();
            }
            return part == 2 && isThing(t) ? worth(t) : -1;
        }

        /** All MOVES from there: 10 times the THING, and the HOLD. */
        List<Integer> after(int[] where) {
            List<Integer> moves = new ArrayList<>();
            for (int t = 0; t < where.length; t++) {
                for (int h = 0; h < holds.size(); h++) {
                    if (can(where, t, h)) {
                        moves.add(10 * t + h);
                    }
                }
            }
            return moves;
        }

        private static String name(int[] where) {
            return java.util.Arrays.toString(where);
        }

        /** Goes forward from there, the cheapest first, till it is open. */
        int search(int[] from, boolean counted) {
            Map<String, Integer> done = new HashMap<>();
            PriorityQueue<int[]> queue = new PriorityQueue<>((a, b) -> Integer.compare(a[0], b[0]));
            queue.add(entry(0, from));
            while (!queue.isEmpty()) {
                int[] first = queue.poll();
                int[] where = java.util.Arrays.copyOfRange(first, 1, first.length);
                if (done.putIfAbsent(name(where), first[0]) != null) {
                    continue;
                }
                if (isOpen(where)) {
                    return first[0];
                }
                for (int m : after(where)) {
                    int price = counted ? 1 : cost(m / 10, where[m / 10], m % 10);
                    queue.add(entry(first[0] + price, moved(where, m / 10, m % 10)));
                }
            }
            return -1;
        }

        private static int[] entry(int far, int[] where) {
            int[] entry = new int[where.length + 1];
            entry[0] = far;
            System.arraycopy(where, 0, entry, 1, where.length);
            return entry;
        }

        private Map<String, int[]> reached() {
            Map<String, int[]> seen = new HashMap<>();
            ArrayDeque<int[]> queue = new ArrayDeque<>();
            seen.put(name(where()), where());
            queue.add(where());
            while (!queue.isEmpty()) {
                int[] at = queue.poll();
                for (int m : after(at)) {
                    int[] then = moved(at, m / 10, m % 10);
                    if (seen.putIfAbsent(name(then), then) == null) {
                        queue.add(then);
                    }
                }
            }
            return seen;
        }

        int best(int what) {
            costs.clear();
            int[] now = where();
            if (what == 0 || what == 2) {
                return search(now, what == 0);
            }
            if (what == 1 || what == 3) {
                int far = search(now, what == 1);
                if (isOpen(now) || far < 0) {
                    return -1;
                }
                for (int m : after(now)) {
                    int price = what == 1 ? 1 : cost(m / 10, now[m / 10], m % 10);
                    int then = search(moved(now, m / 10, m % 10), what == 1);
                    if (then >= 0 && then + price == far) {
                        return m;
                    }
                }
                return -1;
            }
            if (what == 4) {
                return reached().size();
            }
            return what == 5 ? farthest() : -100;
        }

        /** Ring by ring: those from which one move leads into what is known. */
        private int farthest() {
            Map<String, int[]> all = reached();
            Map<String, List<String>> into = new HashMap<>();
            ArrayDeque<String> queue = new ArrayDeque<>();
            Map<String, Integer> far = new HashMap<>();
            for (Map.Entry<String, int[]> e : all.entrySet()) {
                for (int m : after(e.getValue())) {
                    into.computeIfAbsent(name(moved(e.getValue(), m / 10, m % 10)), k -> new ArrayList<>()).add(e.getKey());
                }
                if (isOpen(e.getValue())) {
                    far.put(e.getKey(), 0);
                    queue.add(e.getKey());
                }
            }
            int most = -1;
            while (!queue.isEmpty()) {
                String s = queue.poll();
                most = Math.max(most, far.get(s));
                for (String p : into.getOrDefault(s, List.of())) {
                    if (far.putIfAbsent(p, far.get(s) + 1) == null) {
                        queue.add(p);
                    }
                }
            }
            return most;
        }

        int pack(int t, int what) {
            if (!isThing(t) || what < 0 || what > 1) {
                return -2;
            }
            int hold = -1;
            int least = -1;
            for (int h = 0; h < holds.size(); h++) {
                int[] then = moved(where(), t, h);
                int far = may(then) ? search(then, true) : -1;
                if (far >= 0 && (least < 0 || far < least)) {
                    least = far;
                    hold = h;
                }
            }
            return what == 0 ? hold : least;
        }

        int ring(int what) {
            costs.clear();
            if (what < 0 || what > 1) {
                return -2;
            }
            int least = search(where(), false);
            if (least < 0 || bell() < least) {
                return what == 0 ? 1 : bell();
            }
            return what == 0 ? 0 : least;
        }

        int leave() {
            costs.clear();
            int least = search(where(), false);
            int left = -1;
            for (int t = 0; t < things.size(); t++) {
                if (t != key) {
                    int far = search(moved(where(), t, GONE), false);
                    if (far >= 0 && (least < 0 || far + worth(t) < least)) {
                        least = far + worth(t);
                        left = t;
                    }
                }
            }
            return left;
        }

        int roomy(int what) {
            costs.clear();
            if (what < 0 || what > 1) {
                return -2;
            }
            int least = search(where(), false);
            int hold = -1;
            for (int h = 0; h < holds.size(); h++) {
                more = h;
                int far = search(where(), false);
                more = -1;
                if (far >= 0 && (least < 0 || far < least)) {
                    least = far;
                    hold = h;
                }
            }
            return hold < 0 ? -1 : what == 0 ? hold : least;
        }

        int judge(int s, int what) {
            costs.clear();
            if (s < 0 || s > 3 || what < 0 || what > 2) {
                return -2;
            }
            if (sheets[s] == null) {
                return -11;
            }
            int[] where = where();
            int cost = 0;
            int bad = -1;
            for (int i = 0; i < sheets[s].length && bad < 0; i++) {
                int m = sheets[s][i];
                if (m < 0 || !can(where, m / 10, m % 10)) {
                    bad = i;
                } else {
                    cost += cost(m / 10, where[m / 10], m % 10);
                    where = moved(where, m / 10, m % 10);
                }
            }
            return what == 0 ? bad : what == 1 ? cost : isOpen(where) ? 1 : 0;
        }

        private Map<String, Long> rows(int n) {
            Map<String, Long> rows = new HashMap<>();
            Map<String, int[]> states = new HashMap<>();
            rows.put(name(where()), 1L);
            states.put(name(where()), where());
            for (int i = 0; i < n; i++) {
                Map<String, Long> then = new HashMap<>();
                for (Map.Entry<String, Long> e : rows.entrySet()) {
                    int[] at = states.get(e.getKey());
                    for (int m : after(at)) {
                        int[] to = moved(at, m / 10, m % 10);
                        states.putIfAbsent(name(to), to);
                        then.merge(name(to), e.getValue(), Long::sum);
                    }
                }
                rows = then;
            }
            return rows;
        }

        long ways(int s, int n) {
            if (s < 0 || s > 3 || n < 0 || n > 8 || sheets[s] == null || sheets[s].length != things.size()) {
                return BothHandsFull.NO;
            }
            return rows(n).getOrDefault(name(sheets[s]), 0L);
        }

        int soonest(int s) {
            if (s < 0 || s > 3) {
                return -2;
            }
            if (sheets[s] == null) {
                return -11;
            }
            if (sheets[s].length != things.size()) {
                return -2;
            }
            for (int n = 0; n <= 8; n++) {
                if (rows(n).containsKey(name(sheets[s]))) {
                    return n;
                }
            }
            return -1;
        }

        int drawn(int seed, int n) {
            if (n < 1 || n > 40) {
                return -2;
            }
            int[] where = where();
            int z = seed;
            if (isOpen(where)) {
                return 0;
            }
            for (int i = 1; i <= n; i++) {
                z = z * 1103515245 + 12345;
                if (!things.isEmpty()) {
                    int t = (z >>> 9) % things.size();
                    int h = (z >>> 17) % holds.size();
                    if (can(where, t, h)) {
                        where = moved(where, t, h);
                    }
                }
                if (isOpen(where)) {
                    return i;
                }
            }
            return -1;
        }

        long chance(int seed, int n, int part) {
            if (n < 1 || n > 20 || part < 0 || part > 1) {
                return BothHandsFull.NO;
            }
            int hits = 0;
            for (int i = 0; i < n; i++) {
                hits += drawn(seed + i, 40) >= 0 ? 1 : 0;
            }
            int g = java.math.BigInteger.valueOf(hits).gcd(java.math.BigInteger.valueOf(n)).intValue();
            return (part == 0 ? hits : n) / g;
        }

        private static boolean[][] copyOf(boolean[][] rows) {
            boolean[][] copy = new boolean[5][];
            for (int i = 0; i < 5; i++) {
                copy[i] = rows[i].clone();
            }
            return copy;
        }

        private static List<Thing> copyOf(List<Thing> things) {
            List<Thing> copy = new ArrayList<>();
            for (Thing t : things) {
                copy.add(new Thing(t.size, t.dry, t.hold));
            }
            return copy;
        }

        int image() {
            imaged = true;
            imageNumbers = holds.stream().mapToInt(h -> h[1]).toArray();
            imageThings = copyOf(things);
            imageApart = copyOf(apart);
            imageKey = key;
            imageFree = free;
            imageRule = rule;
            return things.size();
        }

        int back() {
            if (!imaged) {
                return -3;
            }
            while (holds.size() > imageNumbers.length) {
                holds.remove(holds.size() - 1);
            }
            for (int h = 0; h < imageNumbers.length; h++) {
                holds.get(h)[1] = imageNumbers[h];
            }
            things = copyOf(imageThings);
            apart = copyOf(imageApart);
            key = imageKey;
            free = imageFree;
            rule = imageRule;
            return things.size();
        }

        int count(int what) {
            int[] counts = {holds.size(), things.size(), free, key, texts.size(), tape.length(), rule};
            return what < 0 || what > 6 ? -2 : counts[what];
        }

        int sheet(int s, int sort, int n) {
            if (s < 0 || s > 3 || sort < -1 || sort > 2 || sort >= 0 && n > 40) {
                return -2;
            }
            if (sort >= 0 && n < 0) {
                return -14;
            }
            sorts[s] = sort;
            sheets[s] = sort < 0 ? null : new int[n];
            return 1;
        }

        int cell(int s, int i, int v) {
            if (s < 0 || s > 3) {
                return -2;
            }
            if (sheets[s] == null) {
                return -11;
            }
            if (i < 0 || i >= sheets[s].length) {
                return -12;
            }
            sheets[s][i] = sorts[s] == 0 ? (byte) v : sorts[s] == 1 ? (short) v : v;
            return 1;
        }

        int copy(int s, int i, int o, int j, int n) {
            if (s < 0 || s > 3 || o < 0 || o > 3) {
                return -2;
            }
            if (sheets[s] == null || sheets[o] == null) {
                return -11;
            }
            if (sorts[s] != sorts[o]) {
                return -13;
            }
            if (n < 0 || i < 0 || j < 0 || (long) i + n > sheets[s].length || (long) j + n > sheets[o].length) {
                return -12;
            }
            int[] were = sheets[s].clone();
            for (int k = 0; k < n; k++) {
                sheets[o][j + k] = were[i + k];
            }
            return n;
        }

        int things(int s, int sort, int from, int n) {
            if (s < 0 || s > 3 || sort < 0 || sort > 2 || n < 0 || n > 5) {
                return -2;
            }
            if (sheets[s] == null) {
                return -11;
            }
            if (sorts[s] != sort) {
                return -13;
            }
            int came = 0;
            for (int k = 0; k < n; k++) {
                long at = (long) from + 2 * k;
                if (at < 0 || at + 1 >= sheets[s].length) {
                    return -12;
                }
                came += thing(sheets[s][(int) at], sheets[s][(int) at + 1]) >= 0 ? 1 : 0;
            }
            return came;
        }

        int taken(int h, int k) {
            if (k < 0 || k > 5) {
                return -2;
            }
            if (!isHold(h)) {
                return -11;
            }
            int[][] above = {{0}, {0, 1}, {0, 2}, {0, 1, 3}, {0, 2, 4}, {0, 2, 5}};
            for (int a : above[holds.get(h)[0]]) {
                if (a == k) {
                    return holds.get(h)[1];
                }
            }
            return -13;
        }
    }
}
