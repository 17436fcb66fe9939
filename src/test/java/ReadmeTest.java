import java.lang.reflect.Method;
import java.nio.file.Files;
import java.nio.file.Paths;
import java.util.Set;
import java.util.TreeSet;
import java.util.regex.Matcher;
import java.util.regex.Pattern;

/** Every row of README.md that shows a call answers as told there, and no call of the face is left out. */
public final class ReadmeTest {
    private static final Pattern ROW = Pattern.compile("x\\.(\\w+)\\(([^)]*)\\); +// (-?\\d+)(: .*)?");
    private static final Check check = new Check("ReadmeTest");

    public static void main(String[] args) throws Exception {
        PumpTalk x = null;
        Set<String> shown = new TreeSet<>();
        for (String row : Files.readAllLines(Paths.get("README.md"))) {
            Matcher m = ROW.matcher(row);
            if (row.equals("PumpTalk x = new PumpTalk();")) {
                x = new PumpTalk();
            } else if (m.matches()) {
                check.due(row, call(x, m.group(1), m.group(2)), Long.parseLong(m.group(3)));
                shown.add(m.group(1));
            } else {
                check.due("a call that isn't a row: " + row, row.startsWith("x.") ? 1 : 0, 0);
            }
        }
        for (Method m : PumpTalk.class.getDeclaredMethods()) {
            if (java.lang.reflect.Modifier.isPublic(m.getModifiers())) {
                check.due(m.getName() + " is shown", shown.contains(m.getName()) ? 1 : 0, 1);
            }
        }
        check.end();
    }

    private static long call(PumpTalk x, String name, String given) throws Exception {
        String[] parts = given.isEmpty() ? new String[0] : given.split(", ");
        Class<?>[] types = new Class<?>[parts.length];
        Object[] values = new Object[parts.length];
        for (int i = 0; i < parts.length; i++) {
            types[i] = int.class;
            values[i] = Integer.decode(parts[i]);
        }
        return ((Number) PumpTalk.class.getMethod(name, types).invoke(x, values)).longValue();
    }
}
