import java.io.IOException;
import java.nio.file.Files;
import java.nio.file.Path;
import java.util.regex.Matcher;
import java.util.regex.Pattern;

/** The run that README.md shows answers as it says beside each call. */
public final class ReadmeTest {
    private static final Due due = new Due();

    public static void main(String[] args) throws IOException, ReflectiveOperationException {
        String text = Files.readString(Path.of("README.md"));
        Matcher line = Pattern.compile("(?m)^desk\\.(\\w+)\\((.*)\\);\\s*// ([^:\\s]+): .*$").matcher(text);
        RemoteDesk desk = new RemoteDesk();
        int calls = 0;
        while (line.find()) {
            long got = Calls.ask(desk, line.group(1), numbers(line.group(2)));
            due.is("README.md: " + line.group(1) + "(" + line.group(2) + ")", got, number(line.group(3)));
            calls++;
        }
        long shown = text.lines().filter(shownLine -> shownLine.startsWith("desk.")).count();
        due.is("README.md: calls with an answer beside them", calls, shown);
        due.is("README.md: a run is shown", calls > 0, true);
        due.close();
    }

    private static int[] numbers(String list) throws ReflectiveOperationException {
        String[] parts = list.split(", ");
        int[] numbers = new int[parts.length];
        for (int i = 0; i < parts.length; i++) {
            numbers[i] = (int) number(parts[i]);
        }
        return numbers;
    }

    private static long number(String word) throws ReflectiveOperationException {
        if (word.equals("true") || word.equals("false")) {
            return word.equals("true") ? 1 : 0;
        }
        if (Character.isLetter(word.charAt(0))) {
            return RemoteDesk.class.getField(word).getLong(null);
        }
        return Long.parseLong(word);
    }
}
