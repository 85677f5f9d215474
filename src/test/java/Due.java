import java.util.function.Consumer;
import java.util.function.ToIntFunction;

/** Counts and prints the answers that are not the ones that are due. */
final class Due {
    private int wrong = 0;

    void answer(String call, long got, long want) {
        if (got != want) {
            say(call + " answered " + got + ", due is " + want);
        }
    }

    void answer(String call, boolean got, boolean want) {
        answer(call, got ? 1L : 0L, want ? 1L : 0L);
    }

    /** The letters of the text, 0 written as a, with the length and the ends of the text. */
    void text(String when, SelectiveUndo x, String want) {
        StringBuilder got = new StringBuilder();
        for (int p = 0; p < want.length() && x.letter(p) >= 0; p++) {
            got.append((char) ('a' + x.letter(p)));
        }
        if (!got.toString().equals(want)) {
            say(when + ": the text is " + got + ", due is " + want);
        }
        answer(when + ": length()", x.length(), want.length());
        answer(when + ": letter behind the end", x.letter(want.length()), SelectiveUndo.NONE);
    }

    /** The call gives the answer, and the object is then as one without that call: a refusal, or a question. */
    void keeps(String call, long want, Consumer<SelectiveUndo> build, ToIntFunction<SelectiveUndo> run) {
        SelectiveUndo called = new SelectiveUndo();
        SelectiveUndo spared = new SelectiveUndo();
        build.accept(called);
        build.accept(spared);
        answer(call, run.applyAsInt(called), want);
        String after = allThatCanBeSeen(called);
        String due = allThatCanBeSeen(spared);
        if (!after.equals(due)) {
            say(call + " left " + after + ", due is " + due);
        }
    }

    /** Uses the object up; some 400 calls at most, as 512 are all that an object allows. */
    private static String allThatCanBeSeen(SelectiveUndo x) {
        StringBuilder seen = new StringBuilder();
        int changes = x.changes();
        seen.append(changes).append(" changes, digest ").append(x.digest()).append(',');
        for (int k = 0; k < changes; k++) {
            seen.append(' ').append(x.isOn(k)).append('/').append(x.where(k)).append('/').append(x.covers(k));
            seen.append('/').append(x.coveredBy(k)).append('/').append(x.effect(k));
        }
        seen.append(", text");
        addText(seen, x);
        for (int k = 0; k < changes; k++) {
            x.put(k, x.covers(k) == 0 ? 1 : 0);
        }
        seen.append(", list");
        addText(seen, x);
        seen.append(", room");
        for (int n = 0; n < 2; n++) {
            seen.append(' ').append(x.type(0, 0));
        }
        return seen.toString();
    }

    private static void addText(StringBuilder seen, SelectiveUndo x) {
        int length = x.length();
        for (int p = 0; p < length; p++) {
            seen.append(' ').append(x.letter(p)).append('/').append(x.origin(p));
        }
    }

    void say(String fault) {
        wrong++;
        System.out.println(fault);
    }

    void end() {
        System.out.println(wrong == 0 ? "all answers are as due" : wrong + " answers are not as due");
        if (wrong != 0) {
            System.exit(1);
        }
    }
}
