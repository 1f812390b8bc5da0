import java.nio.file.Files;
import java.nio.file.Path;
import java.util.regex.Matcher;
import java.util.regex.Pattern;

/** What README.md shows: its example's calls, row by row, answer what stands behind them. */
public final class ReadmeTest {
    private static final Checks C = new Checks();
    private static final Pattern ROW = Pattern.compile("hall\\.(\\w+)\\(([\\d, ]*)\\);\\s*// (-?\\d+): .*");
    private static final Pattern TEXT = Pattern.compile("String text = \"([^\"]*)\";");

    public static void main(String[] args) throws Exception {
        Path readme = Path.of(args[0]).toAbsolutePath().normalize().resolve("../../../../README.md").normalize();
        String page = Files.readString(readme);
        Matcher text = TEXT.matcher(page);
        C.isTrue("a text is told", text.find());
        RaisedArms hall = new RaisedArms();
        Checks.write(hall, text.group(1));
        int rows = 0;
        for (String line : page.split("\n")) {
            Matcher row = ROW.matcher(line);
            if (row.matches()) {
                rows++;
                C.due(row.group(1) + "(" + row.group(2) + ")", answer(hall, row.group(1), row.group(2)), Long.parseLong(row.group(3)));
            }
        }
        C.due("rows of the example", rows, 15);
        C.isTrue("how to run the tests", page.contains(".ci/run"));
        C.end("ReadmeTest");
    }

    private static long answer(RaisedArms hall, String name, String told) throws Exception {
        String[] numbers = told.isBlank() ? new String[0] : told.split(", ");
        Class<?>[] types = new Class<?>[numbers.length];
        Object[] values = new Object[numbers.length];
        for (int i = 0; i < numbers.length; i++) {
            types[i] = int.class;
            values[i] = Integer.parseInt(numbers[i]);
        }
        return (Integer) RaisedArms.class.getMethod(name, types).invoke(hall, values);
    }
}
