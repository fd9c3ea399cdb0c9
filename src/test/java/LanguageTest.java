import java.lang.reflect.Constructor;
import java.lang.reflect.Field;
import java.lang.reflect.Method;
import java.lang.reflect.Modifier;
import java.nio.file.Files;
import java.nio.file.Path;
import java.util.ArrayList;
import java.util.Arrays;
import java.util.List;
import java.util.Set;
import java.util.TreeMap;
import java.util.TreeSet;
import java.util.regex.Matcher;
import java.util.regex.Pattern;

/** Rules of LANGUAGE.md that can be seen in the source or in the classes without understanding them. */
public final class LanguageTest {
    private static final String FACE = "count(1) set(2) feed(6) text(0) force(1) asks(4) word(3) told(2) put(3) live(0) "
        + "now(1) deed(1) needs(1) done(1) run(2) when(3) begin(2) lobby(2) soup(2) road(3) chain(1) rings(0) longest(1) "
        + "judge(1) begins(1) kinds(3) skipped(1) laws(1) film(2) drawn(3) odds(5) image(0) back(0) sheet(3) cell(3) "
        + "copy(5) wordsBy(4) taken(2)";
    private static int wrong = 0;

    public static void main(String[] args) throws Exception {
        String source = Files.readString(Path.of("src/main/java/OneReader.java"));
        face();
        inside();
        words(withoutComments(source));
        lengths(source);
        callDepth(withoutComments(source));
        System.out.println(wrong == 0 ? "the rules that are looked at hold" : wrong + " rules broken");
        if (wrong != 0) {
            System.exit(1);
        }
    }

    private static void rule(int number, boolean holds, String what) {
        if (!holds) {
            wrong++;
            System.out.println("rule " + number + ": " + what);
        }
    }

    /** Rule 1. */
    private static void face() {
        Set<String> open = new TreeSet<>();
        Set<String> names = new TreeSet<>();
        for (Method m : OneReader.class.getDeclaredMethods()) {
            if (Modifier.isPublic(m.getModifiers())) {
                open.add(m.getName() + "(" + m.getParameterCount() + ")");
                names.add(m.getName());
            }
        }
        rule(1, open.equals(new TreeSet<>(Arrays.asList(FACE.split(" ")))), "the face is " + open);
        for (Method m : OneReader.class.getDeclaredMethods()) {
            boolean hidden = Modifier.isPrivate(m.getModifiers());
            rule(1, m.isSynthetic() || hidden || Modifier.isPublic(m.getModifiers()), "a method too open: " + m);
            rule(1, !hidden || !names.contains(m.getName()), "a private method named as a public one: " + m);
        }
        for (Field f : OneReader.class.getDeclaredFields()) {
            boolean constant = Set.of("NONE", "BAD", "STATE", "FULL", "NO").contains(f.getName());
            rule(1, constant ? Modifier.isPublic(f.getModifiers()) : Modifier.isPrivate(f.getModifiers()), "field " + f);
        }
        Constructor<?>[] made = OneReader.class.getDeclaredConstructors();
        rule(1, made.length == 1 && Modifier.isPublic(made[0].getModifiers()), "constructors");
        rule(1, Modifier.isFinal(OneReader.class.getModifiers()), "the class is final");
    }

    /** Rules 1, 2, 5, 11. */
    private static void inside() {
        List<Class<?>> all = new ArrayList<>(Arrays.asList(OneReader.class.getDeclaredClasses()));
        rule(11, all.size() <= 12, "too many classes");
        for (Class<?> c : all) {
            rule(2, Modifier.isStatic(c.getModifiers()), c + " is not static");
            rule(1, !Modifier.isPublic(c.getModifiers()) && !Modifier.isProtected(c.getModifiers()), c + " too open");
            for (Method m : c.getDeclaredMethods()) {
                rule(1, !(" " + FACE).contains(" " + m.getName() + "("), c + " has a method named as a public one: " + m);
            }
        }
        all.add(OneReader.class);
        for (Class<?> c : all) {
            int fields = 0;
            for (Field f : c.getDeclaredFields()) {
                boolean isStatic = Modifier.isStatic(f.getModifiers());
                fields += isStatic ? 0 : 1;
                rule(5, !isStatic || Modifier.isFinal(f.getModifiers()), f + " is static and not final");
            }
            rule(11, fields <= 20, c + " has " + fields + " fields");
            for (Method m : c.getDeclaredMethods()) {
                rule(11, m.getParameterCount() <= 7, "parameters of " + m);
            }
        }
    }

    private static String withoutComments(String source) {
        return source.replaceAll("(?s)/\\*.*?\\*/", "").replaceAll("//[^\n]*", "");
    }

    /** Rules 2, 3, 4, 6, 10, 13. */
    private static void words(String code) {
        String[] never = {"throw", "throws", "try", "catch", "finally", "synchronized", "assert", "instanceof", "double",
            "float", "Object", "Exception", "Random", "Thread", "native", "volatile", "transient", "record", "var",
            "equals", "hashCode", "toString", "lambda", "goto", "strictfp", "protected", "package", "Exact"};
        for (String word : never) {
            rule(6, !Pattern.compile("\\b" + word + "\\b").matcher(code).find(), "the word " + word);
        }
        rule(2, !code.contains("->"), "an arrow");
        rule(2, !code.contains("::"), "a method reference");
        rule(4, !code.contains("Exact("), "an Exact function");
        Matcher imports = Pattern.compile("import ([^;]*);").matcher(code);
        while (imports.find()) {
            rule(4, imports.group(1).equals("java.util.Arrays"), "import of " + imports.group(1));
        }
        Set<String> library = Set.of("Math.min", "Math.max", "Integer.bitCount", "System.arraycopy", "Arrays.copyOf",
            "Arrays.fill");
        Matcher calls = Pattern.compile("\\b(Math|Integer|Long|System|Arrays|String|List)\\.(\\w+)").matcher(code);
        while (calls.find()) {
            rule(4, library.contains(calls.group()), "a call of " + calls.group());
        }
        for (int i = 0; i < code.length(); i++) {
            rule(4, code.charAt(i) < 128, "a sign above 127 at " + i);
        }
    }

    /** Rule 11: a method's lines, by the indentation that the file keeps. */
    private static void lengths(String source) {
        String[] lines = source.split("\n");
        for (int i = 0; i < lines.length; i++) {
            Matcher head = Pattern.compile("( {4}| {8})(?! )[^=;]*\\) \\{").matcher(lines[i]);
            if (!head.matches()) {
                continue;
            }
            int end = i;
            while (!lines[end].equals(head.group(1) + "}")) {
                end++;
            }
            rule(11, end - i < 60, "a method of " + (end - i + 1) + " lines: " + lines[i].trim());
        }
    }

    /** Rule 11: calls that are no recursion, taken by name, so rather too deep than too shallow. */
    private static void callDepth(String code) {
        TreeMap<String, Set<String>> calls = new TreeMap<>();
        Matcher head = Pattern.compile("(?m)^ {4,8}(?! |if |for |while |switch |\\})[^=;\\n]*?\\b(\\w+)\\([^=;\\n]*\\) \\{$").matcher(code);
        List<Integer> from = new ArrayList<>();
        List<String> names = new ArrayList<>();
        while (head.find()) {
            from.add(head.end());
            names.add(head.group(1));
        }
        for (int i = 0; i < names.size(); i++) {
            String body = code.substring(from.get(i), i + 1 < names.size() ? from.get(i + 1) : code.length());
            int close = body.indexOf(body.startsWith("\n            ") ? "\n        }\n" : "\n    }\n");
            Set<String> called = calls.computeIfAbsent(names.get(i), n -> new TreeSet<>());
            Matcher call = Pattern.compile("(\\w+)\\(").matcher(close < 0 ? body : body.substring(0, close));
            while (call.find()) {
                if (names.contains(call.group(1))) {
                    called.add(call.group(1));
                }
            }
        }
        rule(11, names.size() > 100, "the methods are not found: " + names);
        for (String name : calls.keySet()) {
            int deep = deepest(name, calls);
            rule(11, deep <= 8, name + " calls " + deep + " deep");
        }
    }

    /** A method that can come back to itself counts, with all that it comes back through, once. */
    private static int deepest(String name, TreeMap<String, Set<String>> calls) {
        Set<String> ring = new TreeSet<>();
        for (String other : reached(name, calls)) {
            if (reached(other, calls).contains(name)) {
                ring.add(other);
            }
        }
        ring.add(name);
        int most = 0;
        for (String member : ring) {
            for (String next : calls.get(member)) {
                if (!ring.contains(next)) {
                    most = Math.max(most, deepest(next, calls));
                }
            }
        }
        return most + 1;
    }

    private static Set<String> reached(String name, TreeMap<String, Set<String>> calls) {
        Set<String> all = new TreeSet<>(calls.get(name));
        boolean grows = true;
        while (grows) {
            Set<String> more = new TreeSet<>(all);
            for (String n : all) {
                more.addAll(calls.get(n));
            }
            grows = more.size() > all.size();
            all = more;
        }
        return all;
    }
}
