import java.nio.file.Files;
import java.nio.file.Path;
import java.util.regex.Matcher;
import java.util.regex.Pattern;

/** The examples of README.md answer what they say there: a row with a number behind // is a call with its answer. */
public final class ReadmeTest {
    private static final Pattern ROW = Pattern.compile("^(?:int \\w+ = )?(\\w+)\\.(\\w+)\\(([^()]*)\\);\\s*// (-?\\d+)\\b.*$");
    private static final Pattern TEXT = Pattern.compile("^String text = \"(.*)\";$");

    public static void main(String[] args) throws Exception {
        TowerWarns x = null;
        int rows = 0;
        boolean inExample = false;
        for (String line : Files.readAllLines(Path.of("README.md"))) {
            if (line.startsWith("```")) {
                inExample = line.equals("```java");
            }
            if (inExample && line.contains("new TowerWarns()")) {
                x = new TowerWarns();
            }
            Matcher text = TEXT.matcher(line);
            if (inExample && text.find()) {
                Check.feed(x, text.group(1));
            }
            Matcher row = ROW.matcher(line);
            if (inExample && row.find()) {
                Check.due("README: " + line, answer(x, row.group(2), row.group(3)), Long.parseLong(row.group(4)));
                rows++;
            }
        }
        Check.due("README: rows that tell an answer", rows, 12);
        Check.due("README: boat 10", Check.sea(x, "boat 10"), -6);
        Check.end("ReadmeTest");
    }

    /** The one name that stands among the arguments is ship, whose number is 0. */
    private static long answer(TowerWarns x, String name, String given) throws Exception {
        String[] words = given.isEmpty() ? new String[0] : given.split(", *");
        Class<?>[] types = new Class<?>[words.length];
        Object[] numbers = new Object[words.length];
        for (int i = 0; i < words.length; i++) {
            types[i] = int.class;
            numbers[i] = words[i].equals("ship") ? 0 : Integer.parseInt(words[i]);
        }
        return ((Number) TowerWarns.class.getMethod(name, types).invoke(x, numbers)).longValue();
    }
}
