import java.lang.reflect.Method;
import java.nio.file.Files;
import java.nio.file.Path;
import java.util.Map;
import java.util.TreeMap;
import java.util.regex.Matcher;
import java.util.regex.Pattern;

/** What README.md shows must be so: its example is run call by call, and no call of the face is left out. */
public final class ReadmeTest extends Due {
    private static final Pattern BLOCK = Pattern.compile("(?s)```java\n(.*?)```");
    private static final Pattern CALL = Pattern.compile("x\\.(\\w+)\\(([^)]*)\\); +// (-?\\d+)(:.*)?");
    private static final Pattern ROW = Pattern.compile("`(\\w+)\\(([^)]*)\\)`");

    private static Map<String, Method> face() {
        Map<String, Method> calls = new TreeMap<>();
        for (Method m : FillCells.class.getMethods()) {
            if (m.getDeclaringClass() == FillCells.class) {
                calls.put(m.getName(), m);
            }
        }
        return calls;
    }

    private static Object[] numbers(String told) {
        if (told.isEmpty()) {
            return new Object[0];
        }
        String[] each = told.split(", ");
        Object[] all = new Object[each.length];
        for (int i = 0; i < each.length; i++) {
            all[i] = each[i].startsWith("'") ? each[i].charAt(1) : Integer.parseInt(each[i]);
            all[i] = all[i] instanceof Character c ? (int) c : all[i];
        }
        return all;
    }

    private static void example(String page, Map<String, Method> face) throws ReflectiveOperationException {
        Matcher block = BLOCK.matcher(page);
        if (!block.find()) {
            fail("there is no example");
            return;
        }
        String[] lines = block.group(1).split("\n");
        if (!lines[0].equals("FillCells x = new FillCells();")) {
            fail("the example begins otherwise");
        }
        FillCells x = new FillCells();
        for (int i = 1; i < lines.length; i++) {
            Matcher call = CALL.matcher(lines[i]);
            if (!call.matches() || !face.containsKey(call.group(1))) {
                fail("no call with its answer: " + lines[i]);
                return;
            }
            Object answer = face.get(call.group(1)).invoke(x, numbers(call.group(2)));
            due(lines[i], ((Number) answer).longValue(), Long.parseLong(call.group(3)));
        }
    }

    private static void table(String page, Map<String, Method> face) {
        Map<String, Integer> named = new TreeMap<>();
        for (String line : page.split("\n")) {
            Matcher row = ROW.matcher(line.startsWith("| `") ? line.split(" \\| ")[0] : "");
            while (row.find()) {
                named.put(row.group(1), numbersOf(row.group(2)));
            }
        }
        if (!named.keySet().equals(face.keySet())) {
            fail("the table names other calls: " + named.keySet());
            return;
        }
        for (Method m : face.values()) {
            due("how many numbers " + m.getName() + " takes", named.get(m.getName()), m.getParameterCount());
        }
    }

    private static int numbersOf(String told) {
        return told.isEmpty() ? 0 : told.split(",").length;
    }

    /** The text that the page shows as one that can be read. */
    private static void shownText(String page) {
        Matcher text = Pattern.compile("`([^`]*)` tells two rows").matcher(page);
        FillCells x = new FillCells();
        due("the text it shows", text.find() ? reads(x, text.group(1)) : NONE, 2);
        dueAll("what that tells", got(x.of(0, 0), x.of(1, 0), x.of(2, 1), x.of(4, 0), x.all(3)), 1, 2, 1, 5, 11);
    }

    public static void main(String[] args) throws Exception {
        String page = Files.readString(Path.of("README.md"));
        Map<String, Method> face = face();
        example(page, face);
        table(page, face);
        shownText(page);
        end("ReadmeTest");
    }
}
