import java.io.IOException;
import java.nio.file.Files;
import java.nio.file.Path;
import java.util.List;
import java.util.Map;
import java.util.regex.Matcher;
import java.util.regex.Pattern;
import java.util.stream.Stream;

/** README.md: its example answers what it says, and its tables have every call and constant. */
public final class ReadmeTest {
    private static final Map<String, Integer> CONSTANTS = Map.of(
        "BAD_ARG", ThreadHeap.BAD_ARG, "FULL", ThreadHeap.FULL, "EMPTY", ThreadHeap.EMPTY);
    private static final Pattern START = Pattern.compile("ThreadHeap heap = new ThreadHeap\\((\\d+)\\);.*");
    private static final Pattern CALL = Pattern.compile("heap\\.(\\w+)\\((.*?)\\);(?: *// (\\w+).*)?");

    public static void main(String[] args) throws IOException {
        List<String> lines = Files.readAllLines(Path.of("README.md"));
        exampleAnswersWhatItSays(lines);
        tablesHaveEveryCall(lines);
        tablesHaveEveryConstant(lines);
        Due.end();
    }

    private static void exampleAnswersWhatItSays(List<String> lines) {
        int start = lines.indexOf("```java") + 1;
        List<String> example = lines.subList(start, start + lines.subList(start, lines.size()).indexOf("```"));
        Matcher first = matched(START, example.get(0));
        ThreadHeap heap = new ThreadHeap(Integer.parseInt(first.group(1)));
        for (String line : example.subList(1, example.size())) {
            answersWhatItSays(heap, matched(CALL, line));
        }
    }

    private static Matcher matched(Pattern pattern, String line) {
        Matcher matcher = pattern.matcher(line);
        if (!matcher.matches()) {
            throw new IllegalStateException("a line of the example that can't be tested: " + line);
        }
        return matcher;
    }

    // rest answers nothing; in the table of calls it stands as answering 0.
    private static void answersWhatItSays(ThreadHeap heap, Matcher line) {
        Calls.Call call = Calls.named(line.group(1));
        int[] arguments = Stream.of(line.group(2).split(", ")).filter(text -> !text.isEmpty())
            .mapToInt(Integer::parseInt).toArray();
        String said = line.group(3) == null ? "0" : line.group(3);
        int want = CONSTANTS.containsKey(said) ? CONSTANTS.get(said) : Integer.parseInt(said);
        Due.answer(Calls.told(call, arguments), call.action().on(heap, arguments), want);
    }

    private static void tablesHaveEveryCall(List<String> lines) {
        for (Calls.Call call : Calls.ALL) {
            hasOneLine(lines, "| `" + call.name() + "(");
        }
        hasOneLine(lines, "| `new ThreadHeap(room)` |");
    }

    private static void tablesHaveEveryConstant(List<String> lines) {
        CONSTANTS.forEach((name, value) -> hasOneLine(lines, "| `" + name + "` | " + value + " |"));
    }

    private static void hasOneLine(List<String> lines, String start) {
        long found = lines.stream().filter(line -> line.startsWith(start)).count();
        Due.answer("how many lines of README.md start with " + start, (int) found, 1);
    }
}
