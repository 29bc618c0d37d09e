import java.lang.reflect.Method;
import java.lang.reflect.Modifier;
import java.nio.charset.StandardCharsets;
import java.nio.file.Files;
import java.nio.file.Path;
import java.util.regex.Matcher;
import java.util.regex.Pattern;

/** README.md: the calls of its example answer what it says, and no call of the face and no test is left out of it. */
public final class ReadmeTest {
    private static final Pattern ROW = Pattern.compile("(?m)^x\\.(\\w+)\\(([^)]*)\\);\\s*// (-?\\w+): ");
    private static final int LEAST_ROWS = 15;
    private static final Checks C = new Checks();

    public static void main(String[] args) throws Exception {
        String page = Files.readString(Path.of("README.md"), StandardCharsets.UTF_8);
        checkExample(page);
        for (Method m : SackedGlass.class.getDeclaredMethods()) {
            if (!Modifier.isPublic(m.getModifiers())) continue;
            C.due("README.md names " + m.getName(), page.contains("`" + m.getName() + "`"), true);
        }
        checkTests(page);
        C.finish("ReadmeTest");
    }

    private static void checkExample(String page) throws ReflectiveOperationException {
        SackedGlass x = new SackedGlass();
        Matcher rows = ROW.matcher(page);
        int count = 0;
        while (rows.find()) {
            C.due(rows.group(1) + "(" + rows.group(2) + ") answers " + rows.group(3),
                    call(x, rows.group(1), rows.group(2)).equals(rows.group(3)), true);
            count++;
        }
        C.due("rows of the example, " + LEAST_ROWS + " at least", count >= LEAST_ROWS, true);
    }

    private static String call(SackedGlass x, String name, String told) throws ReflectiveOperationException {
        String[] texts = told.isEmpty() ? new String[0] : told.split(", ");
        for (Method m : SackedGlass.class.getDeclaredMethods()) {
            if (!Modifier.isPublic(m.getModifiers()) || !m.getName().equals(name)) continue;
            Object[] values = new Object[texts.length];
            for (int i = 0; i < values.length; i++) {
                boolean truth = m.getParameterTypes()[i] == boolean.class;
                values[i] = truth ? (Object) Boolean.valueOf(texts[i]) : (Object) Integer.valueOf(texts[i]);
            }
            return m.invoke(x, values).toString();
        }
        return "no such call";
    }

    private static void checkTests(String page) throws java.io.IOException {
        try (var files = Files.newDirectoryStream(Path.of("src/test/java"), "*Test.java")) {
            for (Path file : files) {
                String name = file.getFileName().toString().replace(".java", "");
                C.due("README.md names " + name, page.contains("`" + name + "`"), true);
            }
        }
    }
}
