import java.io.IOException;
import java.nio.file.Files;
import java.nio.file.Path;
import java.util.LinkedHashMap;
import java.util.Map;

/** The example of README.md: each call stands there with the answer that it gives. */
public final class ReadmeTest {
    private static final SortDesk DESK = new SortDesk();

    public static void main(String[] args) throws IOException {
        String readme = Files.readString(Path.of("README.md"));
        calls().forEach((call, answer) -> Check.due(call, answerIn(readme, call), Long.toString(answer.answer())));
        Check.due("keys in the end", Check.keys(DESK), "[5, 3, 4]");
        Check.end();
    }

    private static Map<String, Check.Call> calls() {
        Map<String, Check.Call> calls = new LinkedHashMap<>();
        calls.put("desk.put(5, 50);", () -> DESK.put(5, 50));
        calls.put("desk.put(3, 30);", () -> DESK.put(3, 30));
        calls.put("desk.put(4, 40);", () -> DESK.put(4, 40));
        calls.put("desk.figure(6);", () -> DESK.figure(6));
        calls.put("desk.rule(0, 0, 20, 1);", () -> DESK.rule(0, 0, 20, 1));
        calls.put("desk.plan();", () -> DESK.plan());
        calls.put("desk.origin(0);", () -> DESK.origin(0));
        calls.put("desk.order(SortDesk.NONE);", () -> DESK.order(SortDesk.NONE));
        calls.put("desk.at(0, true);", () -> DESK.at(0, true));
        calls.put("desk.below(5);", () -> DESK.below(5));
        calls.put("desk.steps();", () -> DESK.steps());
        calls.put("desk.step(0, 2);", () -> DESK.step(0, 2));
        calls.put("desk.putBack();", () -> DESK.putBack());
        return calls;
    }

    /** The number that begins the comment behind the call. */
    private static String answerIn(String readme, String call) {
        for (String line : readme.split("\n")) {
            if (line.startsWith(call)) {
                return line.replaceFirst(".*// (-?[0-9]+).*", "$1");
            }
        }
        return "nothing";
    }
}
