import java.io.IOException;
import java.nio.file.Files;
import java.nio.file.Path;
import java.util.EnumSet;
import java.util.List;
import java.util.Map;
import java.util.Set;
import java.util.regex.Matcher;
import java.util.regex.Pattern;

/** The calls of README.md's example, in their order, answer what README.md gives for them. */
public final class ReadmeTest {
    private static final String FIRST_LINE = "SelectiveUndo text = new SelectiveUndo();";
    /** A call; behind it the answer, the text if the call changes it, and a remark or none. */
    private static final Pattern LINE = Pattern.compile(
            "text\\.(\\w+)\\((?:(-?\\d+)(?:, (-?\\d+))?)?\\); +// (-?\\w+)(?:, text ([a-z]+|\\(empty\\)))?(?:: .+)?");
    private static final Map<String, Integer> WORDS = Map.of("true", 1, "false", 0,
            "BAD_ARG", SelectiveUndo.BAD_ARG, "FULL", SelectiveUndo.FULL, "NONE", SelectiveUndo.NONE);

    private final Due due = new Due();
    private final SelectiveUndo x = new SelectiveUndo();
    private final EnumSet<Call> made = EnumSet.noneOf(Call.class);
    private String text = "";

    public static void main(String[] args) throws IOException {
        ReadmeTest test = new ReadmeTest();
        test.makeCalls(Files.readAllLines(Path.of("README.md")));
        test.due.end();
    }

    private void makeCalls(List<String> readme) {
        int first = readme.indexOf(FIRST_LINE) + 1;
        for (int n = first; n > 0 && !readme.get(n).equals("```"); n++) {
            makeCall(readme.get(n));
        }
        Set<Call> missing = EnumSet.complementOf(made);
        if (!missing.isEmpty()) {
            due.say("README.md's example has no " + missing);
        }
    }

    private void makeCall(String line) {
        Matcher parts = LINE.matcher(line);
        if (!parts.matches()) {
            due.say("README.md's example has a line of another form: " + line);
            return;
        }
        Call call = spelled(parts.group(1));
        made.add(call);
        int a = parts.group(2) == null ? 0 : Integer.parseInt(parts.group(2));
        int b = parts.group(3) == null ? 0 : Integer.parseInt(parts.group(3));
        if (!line.startsWith("text." + call.told(a, b) + ";")) {
            due.say("README.md's example has a call with too many or too few arguments: " + line);
        }
        due.answer(line, call.answer(x, a, b), number(parts.group(4)));
        if (parts.group(5) != null) {
            text = parts.group(5).equals("(empty)") ? "" : parts.group(5);
        }
        due.text(line, x, text);
    }

    private static Call spelled(String spelling) {
        for (Call call : Call.values()) {
            if (call.spelling.equals(spelling)) {
                return call;
            }
        }
        throw new IllegalArgumentException("README.md calls " + spelling);
    }

    private static int number(String answer) {
        return WORDS.containsKey(answer) ? WORDS.get(answer) : Integer.parseInt(answer);
    }
}
