import java.lang.reflect.Method;
import java.nio.file.Files;
import java.nio.file.Path;
import java.util.List;
import java.util.regex.Matcher;
import java.util.regex.Pattern;

/** The table of README.md: each call, made in its order on one object, answers what stands there. */
public final class ReadmeTest {
    private static final Pattern ROW = Pattern.compile("\\| `(\\w+)\\(([^)]*)\\)` \\| (\\S+) \\|.*");

    public static void main(String[] args) throws Exception {
        List<String> lines = Files.readAllLines(Path.of("README.md"));
        LotLedger x = Check.of(lines.get(lines.indexOf("```text") + 1));
        int wrong = 0;
        int rows = 0;
        for (String line : lines) {
            Matcher row = ROW.matcher(line);
            if (!row.matches()) continue;
            rows++;
            String got = "" + answer(x, row.group(1), row.group(2));
            if (!got.equals(row.group(3))) {
                wrong++;
                System.out.println(line + " but it answered " + got);
            }
        }
        if (rows == 0) System.out.println("README.md has no table of calls");
        System.out.println(wrong == 0 ? rows + " rows hold" : wrong + " rows do not hold");
        System.exit(wrong == 0 && rows > 0 ? 0 : 1);
    }

    private static Object answer(LotLedger x, String name, String given) throws Exception {
        String[] words = given.isEmpty() ? new String[0] : given.split(", ");
        for (Method method : LotLedger.class.getMethods()) {
            if (!method.getName().equals(name) || method.getParameterCount() != words.length) continue;
            Object[] values = new Object[words.length];
            for (int i = 0; i < words.length; i++) {
                boolean isInt = method.getParameterTypes()[i] == int.class;
                values[i] = isInt ? (Object) Integer.valueOf(words[i]) : (Object) Boolean.valueOf(words[i]);
            }
            return method.invoke(x, values);
        }
        return "nothing: there is no such call";
    }
}
