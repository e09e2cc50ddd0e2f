import java.io.IOException;
import java.lang.reflect.Constructor;
import java.lang.reflect.Field;
import java.lang.reflect.Member;
import java.lang.reflect.Method;
import java.lang.reflect.Modifier;
import java.nio.charset.StandardCharsets;
import java.nio.file.Files;
import java.nio.file.Path;
import java.util.ArrayDeque;
import java.util.Arrays;
import java.util.Map;
import java.util.Set;
import java.util.TreeMap;
import java.util.TreeSet;
import java.util.regex.Matcher;
import java.util.regex.Pattern;

/** The rules of LANGUAGE.md that can be seen in the text of the program and in its class. */
public final class LanguageTest {
    private static final Path PROGRAM = Path.of("src/main/java/BothHandsFull.java");
    private static final String[] FACE = {
        "int hold(int,int)", "int thing(int,int)", "int set(int,int,int)", "int part(int,int,int)",
        "int told(int,int)", "int feed(int)", "int text()", "int force(int)", "int move(int,int)",
        "int why(int,int)", "int open(int)", "int asks(int,int,int)", "int best(int)", "int pack(int,int)",
        "int ring(int)", "int leave()", "int roomy(int)", "int judge(int,int)", "long ways(int,int)",
        "int soonest(int)", "int drawn(int,int)", "long chance(int,int,int)", "int image()", "int back()",
        "int count(int)", "int sheet(int,int,int)", "int cell(int,int,int)", "int copy(int,int,int,int,int)",
        "int things(int,int,int,int)", "int taken(int,int)",
    };
    /** Of a method at the depth of methods: how far in it stands, what it is, its name, what it does. */
    private static final Pattern METHOD = Pattern.compile(
        "^( {4}| {8})((?:[\\w\\[\\]]+ )+)(\\w+)\\([^\n]*\\) \\{\n(.*?)^\\1\\}$", Pattern.DOTALL | Pattern.MULTILINE);
    private static final int CALLS_DEEP = 8;
    private static int wrong = 0;

    private static void due(String rule, boolean holds) {
        if (!holds) {
            wrong++;
            System.out.println("not so: " + rule);
        }
    }

    public static void main(String[] args) throws IOException {
        face();
        classes();
        String code = bare(Files.readString(PROGRAM, StandardCharsets.UTF_8));
        words(code);
        library(code);
        methods(code);
        calls(code);
        System.out.println(wrong == 0 ? "the language is kept to" : wrong + " rules are not kept to");
        if (wrong != 0) {
            System.exit(1);
        }
    }

    private static void face() {
        Set<String> found = new TreeSet<>();
        Set<String> names = new TreeSet<>();
        for (Method m : BothHandsFull.class.getDeclaredMethods()) {
            if (!m.isSynthetic() && !Modifier.isPrivate(m.getModifiers())) {
                due("rule 1: " + m.getName() + " is public and of objects", m.getModifiers() == Modifier.PUBLIC);
                names.add(m.getName());
                String parameters = Arrays.toString(m.getParameterTypes()).replaceAll("[\\[\\] ]", "");
                found.add(m.getReturnType() + " " + m.getName() + "(" + parameters + ")");
            }
        }
        due("rule 1: the calls are those of the document", found.equals(new TreeSet<>(Arrays.asList(FACE))));
        Set<String> constants = new TreeSet<>();
        for (Field f : BothHandsFull.class.getDeclaredFields()) {
            if (!Modifier.isPrivate(f.getModifiers())) {
                constants.add(f.getType() + " " + f.getName());
            }
        }
        due("rule 1: the constants too", constants.toString().equals("[int BAD, int FULL, int NONE, int STATE, long NO]"));
        Constructor<?>[] made = BothHandsFull.class.getDeclaredConstructors();
        due("rule 1: one constructor", made.length == 1 && made[0].getParameterCount() == 0
            && made[0].getModifiers() == Modifier.PUBLIC);
        for (Class<?> c : allClasses()) {
            for (Method m : c.getDeclaredMethods()) {
                boolean own = Modifier.isPublic(m.getModifiers()) && c == BothHandsFull.class;
                due("rule 1: no other " + m.getName(), own || !names.contains(m.getName()));
            }
        }
    }

    private static Class<?>[] allClasses() {
        Class<?>[] inside = BothHandsFull.class.getDeclaredClasses();
        Class<?>[] all = Arrays.copyOf(inside, inside.length + 1);
        all[inside.length] = BothHandsFull.class;
        return all;
    }

    private static void classes() {
        due("rule 11: some twelve classes", allClasses().length <= 12);
        for (Class<?> c : allClasses()) {
            due("rule 1: " + c.getName() + " is static", c == BothHandsFull.class || Modifier.isStatic(c.getModifiers()));
            int fields = 0;
            for (Field f : c.getDeclaredFields()) {
                due("rule 5: static " + f.getName() + " is final", !isStatic(f) || Modifier.isFinal(f.getModifiers()));
                fields += isStatic(f) ? 0 : 1;
            }
            due("rule 11: some twenty fields in " + c.getName(), fields <= 20);
            for (Method m : c.getDeclaredMethods()) {
                due("rule 11: seven parameters of " + m.getName(), m.getParameterCount() <= 7);
            }
        }
    }

    private static boolean isStatic(Member m) {
        return Modifier.isStatic(m.getModifiers());
    }

    /** The text without its comments, and without what stands in its strings. */
    private static String bare(String text) {
        Matcher m = Pattern.compile("//[^\n]*|/\\*.*?\\*/|\"([^\"\\\\\n]|\\\\.)*\"|'([^'\\\\]|\\\\.)'", Pattern.DOTALL).matcher(text);
        return m.replaceAll(r -> r.group().startsWith("\"") ? "\"\"" : r.group().startsWith("'") ? "' '" : " ");
    }

    private static void words(String code) {
        String[] none = {"package", "import", "throw", "throws", "try", "catch", "finally", "synchronized", "assert",
            "volatile", "transient", "native", "protected", "var", "yield", "equals", "hashCode", "toString", "float",
            "double", "Object", "Thread", "Random", "java", "javax"};
        for (String word : none) {
            due("no " + word, !Pattern.compile("\\b" + word + "\\b").matcher(code).find());
        }
        due("no lambda", !code.contains("->"));
        due("no reference to a method", !code.contains("::"));
        due("no annotation", !code.contains("@"));
        due("no static block", !Pattern.compile("\\bstatic\\s*\\{").matcher(code).find());
    }

    private static void library(String code) {
        Set<String> may = new TreeSet<>(Arrays.asList("Math.max", "Math.min", "Integer.bitCount", "System.arraycopy",
            "Text.NAMES", "FIRST_TEXT.length", "FIRST_TEXT.charAt", "SIGNS.indexOf", "WORDS.charAt", "Text.NAME", "Text.JOINS", "Text.NEGATED", "Tape.NOT", "Tape.AND"));
        Matcher m = Pattern.compile("\\b[A-Z]\\w*\\.\\w+").matcher(code);
        while (m.find()) {
            due("rule 4: " + m.group(), may.contains(m.group()));
        }
        for (String line : code.split("\n")) {
            boolean inFieldOrConstructor = line.matches("\\s+(private )?final .* = new .*;|\\s+(texts|sheets)\\[i\\] = new \\w+\\(\\);");
            due("no call makes an object: " + line, !line.matches(".*\\bnew\\b.*") || inFieldOrConstructor);
        }
        Matcher made = Pattern.compile("\\bnew\\s+(\\w+)").matcher(code);
        while (made.find()) {
            due("rule 4: new " + made.group(1), Arrays.asList("int", "Lot", "Search", "Tape", "Text", "Sheet").contains(made.group(1)));
        }
    }

    /** A method's text has some sixty lines at most; by the brackets at the depth of methods. */
    private static void methods(String code) {
        int depth = 0;
        int began = 0;
        String[] lines = code.split("\n", -1);
        for (int i = 0; i < lines.length; i++) {
            if (lines[i].matches("\\s+.*\\)\\s*\\{\\s*") && lines[i].matches("( {4}| {8})\\S.*")
                    && !lines[i].trim().matches("(if|for|while|switch|else).*")) {
                began = i;
            }
            for (char c : lines[i].toCharArray()) {
                depth += c == '{' ? 1 : c == '}' ? -1 : 0;
            }
            if (lines[i].matches("( {4}| {8})\\}\\s*")) {
                due("rule 11: the method at bare line " + (began + 1) + " is short", i - began <= 60);
            }
        }
        due("all brackets are closed", depth == 0);
    }

    /** Rules 8 and 11, by the names of methods: those of one name in two classes count as one. */
    private static void calls(String code) {
        Map<String, Set<String>> called = new TreeMap<>();
        Map<String, Boolean> isPrivate = new TreeMap<>();
        Matcher m = METHOD.matcher(code);
        while (m.find()) {
            Set<String> names = called.computeIfAbsent(m.group(3), k -> new TreeSet<>());
            Matcher call = Pattern.compile("\\b(\\w+)\\(").matcher(m.group(4));
            while (call.find()) {
                names.add(call.group(1));
            }
            isPrivate.merge(m.group(3), m.group(2).contains("private"), Boolean::logicalAnd);
        }
        due("the methods are found", called.keySet().containsAll(Arrays.asList("leave", "joined", "lay", "isWord")));
        for (String name : called.keySet()) {
            int deep = deepest(name, called, new ArrayDeque<>());
            due("rule 11: " + name + " goes " + deep + " calls deep", deep <= CALLS_DEEP);
            boolean again = called.get(name).stream().anyMatch(n -> leadsTo(n, name, called, new TreeSet<>()));
            due("rule 8: " + name + " calls itself", !again || isPrivate.get(name));
        }
    }

    /** How many calls stand open at most, the library's too, each method once. */
    private static int deepest(String name, Map<String, Set<String>> called, ArrayDeque<String> open) {
        open.push(name);
        int most = 0;
        for (String next : called.getOrDefault(name, Set.of())) {
            if (!open.contains(next)) {
                most = Math.max(most, deepest(next, called, open));
            }
        }
        open.pop();
        return most + 1;
    }

    private static boolean leadsTo(String from, String to, Map<String, Set<String>> called, Set<String> seen) {
        return from.equals(to) || seen.add(from)
            && called.getOrDefault(from, Set.of()).stream().anyMatch(n -> leadsTo(n, to, called, seen));
    }
}
