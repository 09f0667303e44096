import java.lang.reflect.Constructor;
import java.lang.reflect.Field;
import java.lang.reflect.Method;
import java.lang.reflect.Modifier;
import java.nio.file.Files;
import java.nio.file.Path;
import java.util.Arrays;
import java.util.Set;
import java.util.TreeSet;
import java.util.regex.Matcher;
import java.util.regex.Pattern;

/** What can be seen of ../shared/LANGUAGE.md without reading the program as a person would. */
public final class LanguageTest {
    private static final String FACE = "sets(int,int,int)int draw(int,int)int empties()int rules(int,int)int of(int,int)int "
        + "sum(int)int windows(int)int worst(int)int order(int,int)int turn(int)int burden(int)int all(int)int "
        + "more(int)int less(int)int next()int steps(int)int thins()int best(int)int row(int,int)int undo()int "
        + "type(int)int clear()int reads()int told(int)int digest()long";
    private static int wrong = 0;

    private static void due(String what, boolean holds) {
        if (!holds) {
            wrong++;
            System.out.println("LanguageTest: " + what);
        }
    }

    private static String sign(Method m) {
        StringBuilder s = new StringBuilder(m.getName()).append('(');
        for (int i = 0; i < m.getParameterCount(); i++) {
            s.append(i > 0 ? "," : "").append(m.getParameterTypes()[i].getSimpleName());
        }
        return s.append(')').append(m.getReturnType().getSimpleName()).toString();
    }

    private static void face() {
        Class<?> c = FillCells.class;
        due("public final class", Modifier.isPublic(c.getModifiers()) && Modifier.isFinal(c.getModifiers()));
        Set<String> open = new TreeSet<>(), names = new TreeSet<>();
        for (Method m : c.getDeclaredMethods()) {
            if (!Modifier.isPrivate(m.getModifiers())) {
                due(m + " is public and not static", m.getModifiers() == Modifier.PUBLIC);
                open.add(sign(m));
                names.add(m.getName());
            }
        }
        due("the face has other methods: " + open, open.equals(new TreeSet<>(Arrays.asList(FACE.split(" ")))));
        Set<String> constants = new TreeSet<>();
        for (Field f : c.getDeclaredFields()) {
            due(f + " is final, if static", !Modifier.isStatic(f.getModifiers()) || Modifier.isFinal(f.getModifiers()));
            if (!Modifier.isPrivate(f.getModifiers())) {
                constants.add(f.getName());
            }
        }
        due("constants: " + constants, constants.equals(Set.of("NONE", "BAD", "NO", "FULL")));
        Constructor<?>[] made = c.getDeclaredConstructors();
        due("one constructor", made.length == 1 && made[0].getParameterCount() == 0
            && Modifier.isPublic(made[0].getModifiers()));
        classesInside(c, names);
    }

    private static void classesInside(Class<?> c, Set<String> names) {
        Class<?>[] inside = c.getDeclaredClasses();
        due("at most twelve classes", inside.length < 12);
        for (Class<?> one : inside) {
            due(one + " is static", Modifier.isStatic(one.getModifiers()));
            due(one + " has at most 20 fields", Arrays.stream(one.getDeclaredFields())
                .filter(f -> !Modifier.isStatic(f.getModifiers())).count() <= 20);
            for (Method m : one.getDeclaredMethods()) {
                due(m + " bears the name of a public one", !names.contains(m.getName()));
                due(m + " takes at most seven", m.getParameterCount() <= 7);
            }
        }
        for (Method m : c.getDeclaredMethods()) {
            due(m + " bears the name of a public one", !Modifier.isPrivate(m.getModifiers()) || !names.contains(m.getName()));
        }
    }

    private static void source() throws Exception {
        String text = Files.readString(Path.of("src/main/java/FillCells.java"));
        due("signs 1 to 127", text.chars().allMatch(ch -> ch > 0 && ch < 128));
        String bare = text.replaceAll("(?s)/\\*.*?\\*/", "").replaceAll("//[^\n]*", "");
        Matcher m = Pattern.compile("\\b(throw|throws|try|catch|finally|synchronized|assert|package|native|volatile"
            + "|transient|Exception|Thread|Random|Object|hashCode|toString|equals)\\b|->|::|@").matcher(bare);
        while (m.find()) {
            due("not in the language: " + m.group(), false);
        }
        m = Pattern.compile("import ([^;]*);").matcher(bare);
        while (m.find()) {
            due("import " + m.group(1), m.group(1).equals("java.util.Arrays"));
        }
        m = Pattern.compile("\\b(Arrays|System|Math|Integer|Long)\\.(\\w+)").matcher(bare);
        while (m.find()) {
            due("not in the library: " + m.group(), Set.of("Arrays.fill", "System.arraycopy", "Math.min", "Math.max")
                .contains(m.group()));
        }
        for (String line : bare.split("\n")) {
            due("made outside a constructor: " + line, !line.contains("new ") || line.matches("\\s*(private )?final .*"));
        }
        m = Pattern.compile("(?m)^( +)(?:[a-z]+ )*\\w+(?:\\[\\])? \\w+\\([^)]*\\) \\{\n(?:(?!\\1\\}).*\n)*").matcher(bare);
        while (m.find()) {
            due("longer than sixty lines: " + m.group().split("\n")[0], m.group().split("\n").length <= 60);
        }
    }

    public static void main(String[] args) throws Exception {
        face();
        source();
        System.out.println(wrong == 0 ? "LanguageTest: all holds" : "LanguageTest: " + wrong + " do not hold");
        if (wrong != 0) {
            System.exit(1);
        }
    }
}
