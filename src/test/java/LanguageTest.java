import java.lang.reflect.Constructor;
import java.lang.reflect.Field;
import java.lang.reflect.Method;
import java.lang.reflect.Modifier;
import java.nio.charset.StandardCharsets;
import java.nio.file.Files;
import java.nio.file.Path;
import java.util.Arrays;
import java.util.TreeSet;
import java.util.regex.Matcher;
import java.util.regex.Pattern;

/** The rules of LANGUAGE.md that can be read off the source or the class; run from the project's folder. */
public final class LanguageTest {
    private static final Path SOURCE = Path.of("src/main/java/NoWordNo.java");
    private static final int ROOM = 4000;
    private static int wrong = 0;

    public static void main(String[] args) throws Exception {
        String source = Files.readString(SOURCE, StandardCharsets.ISO_8859_1);
        words(withoutComments(source));
        lengths(source);
        face();
        inside();
        room();
        System.out.println(wrong == 0 ? "the rules are kept" : wrong + " rules broken");
        if (wrong != 0) {
            System.exit(1);
        }
    }

    private static void must(boolean right, String what) {
        if (!right) {
            wrong++;
            System.out.println("broken: " + what);
        }
    }

    private static String withoutComments(String source) {
        return source.replaceAll("(?s)/\\*.*?\\*/", " ").replaceAll("//[^\n]*", " ")
            .replaceAll("\"[^\"\n]*\"", "\"\"").replaceAll("'[^'\n]*'", "' '");
    }

    private static void words(String code) {
        String[] banned = {
            "package", "import", "throw", "throws", "try", "catch", "finally", "synchronized", "assert", "native",
            "volatile", "transient", "float", "double", "System", "Thread", "Object", "equals", "hashCode", "toString",
            "addExact", "multiplyExact", "protected", "record", "enum", "interface", "var", "yield",
        };
        for (String word : banned) {
            must(!Pattern.compile("\\b" + word + "\\b").matcher(code).find(), "the word " + word);
        }
        must(!code.contains("->") && !code.contains("::"), "no lambda, no method reference");
        must(!code.contains("@"), "no annotations");
        Matcher index = Pattern.compile("\\w\\[[^\\]]").matcher(code.replace("int[MOST", "").replace("int[ROOM", "")
            .replace("int[10 *", "").replace("int[LONGEST", "").replace("int[DEEPEST", "").replace("int[Tongue", ""));
        int places = 0;
        while (index.find()) {
            places++;
        }
        must(places == 2, "rows are looked at and put in class Rows alone, once each: " + places);
    }

    private static void lengths(String source) {
        int begun = -1;
        int number = 0;
        for (String line : source.split("\n")) {
            number++;
            must(line.length() <= 120, "a line's length: " + number);
            if (line.matches("( {4}| {8})(public |private |static |int |boolean |void |final )+.*\\) \\{")) {
                begun = number;
            }
            if (line.matches(" {4}\\}| {8}\\}") && begun >= 0) {
                must(number - begun < 60, "a method's length, from line " + begun);
                begun = -1;
            }
        }
    }

    private static void face() {
        Class<?> c = NoWordNo.class;
        must(Modifier.isPublic(c.getModifiers()) && Modifier.isFinal(c.getModifiers()), "public and final");
        StringBuilder seen = new StringBuilder();
        Arrays.stream(c.getDeclaredFields()).filter(f -> !Modifier.isPrivate(f.getModifiers())).map(Field::getName)
            .sorted().forEach(n -> seen.append(n).append(' '));
        must(seen.toString().equals("BAD FULL NO NONE STATE "), "the constants: " + seen);
        String due = "alike back clause clear common contract count gap keep lost made mark refusal saves say saying "
            + "shortest silence talk terms tongue trace type unsay unword value word worst ";
        StringBuilder methods = new StringBuilder();
        Arrays.stream(c.getDeclaredMethods()).filter(m -> !Modifier.isPrivate(m.getModifiers())).map(Method::getName)
            .sorted().forEach(n -> methods.append(n).append(' '));
        must(methods.toString().equals(due), "the methods: " + methods);
        Constructor<?>[] made = c.getDeclaredConstructors();
        must(made.length == 1 && Modifier.isPublic(made[0].getModifiers()), "the constructor");
    }

    private static void inside() {
        Class<?> c = NoWordNo.class;
        TreeSet<String> faced = new TreeSet<>();
        for (Method m : c.getDeclaredMethods()) {
            if (Modifier.isPublic(m.getModifiers())) {
                faced.add(m.getName());
            }
        }
        must(c.getDeclaredClasses().length <= 11, "some twelve classes");
        one(c, faced, false);
        for (Class<?> inner : c.getDeclaredClasses()) {
            must(Modifier.isStatic(inner.getModifiers()), "static: " + inner);
            must(!Modifier.isPublic(inner.getModifiers()), "not public: " + inner);
            one(inner, faced, true);
        }
    }

    private static void one(Class<?> c, TreeSet<String> faced, boolean inner) {
        int fields = 0;
        for (Field f : c.getDeclaredFields()) {
            boolean fixed = Modifier.isStatic(f.getModifiers());
            fields += fixed ? 0 : 1;
            must(!fixed || Modifier.isFinal(f.getModifiers()), "static fields are final: " + f);
            must(!fixed || f.getType().isPrimitive() || f.getType() == String.class, "constants: " + f);
            must(!inner || fixed || Modifier.isPrivate(f.getModifiers()), "private fields: " + f);
        }
        must(fields <= 20, "some twenty fields: " + c);
        for (Method m : c.getDeclaredMethods()) {
            must(m.getParameterCount() <= 7, "seven parameters: " + m);
            must(Modifier.isPublic(m.getModifiers()) && !inner || !faced.contains(m.getName()), "a public one's name: " + m);
        }
    }

    /** What one object takes: its own fields and elements, and those of all that it holds. */
    private static void room() throws Exception {
        long[] taken = {0};
        measure(new NoWordNo(), taken);
        must(taken[0] < ROOM, "an object takes " + taken[0] + " fields and elements");
    }

    private static void measure(Object o, long[] taken) throws Exception {
        if (o instanceof int[] row) {
            taken[0] += row.length;
            return;
        }
        for (Field f : o.getClass().getDeclaredFields()) {
            if (!Modifier.isStatic(f.getModifiers())) {
                taken[0]++;
                f.setAccessible(true);
                if (!f.getType().isPrimitive()) {
                    measure(f.get(o), taken);
                }
            }
        }
    }
}
