import java.util.function.ToIntFunction;

/** Counts and prints the answers that are not the ones that are due. */
final class Due {
    private int wrong = 0;
    private String sentence = "";

    /** The sentence of the document that the answers from here on are due by. */
    void sentence(String quote) {
        sentence = "\"" + quote + "\": ";
    }

    void answer(String call, long got, long want) {
        if (got != want) {
            say(call + " answered " + got + ", due is " + want);
        }
    }

    void answer(String call, boolean got, boolean want) {
        answer(call, got ? 1L : 0L, want ? 1L : 0L);
    }

    /** The letters of the text, 0 written as a, with the length and the ends of the text. */
    void text(String when, SelectiveUndo x, String want) {
        StringBuilder got = new StringBuilder();
        for (int p = 0; p < want.length() && x.letter(p) >= 0; p++) {
            got.append((char) ('a' + x.letter(p)));
        }
        if (!got.toString().equals(want)) {
            say(when + ": the text is " + got + ", due is " + want);
        }
        answer(when + ": length()", x.length(), want.length());
        answer(when + ": letter behind the end", x.letter(want.length()), SelectiveUndo.NONE);
    }

    /** The call gives the answer, and the object is then as it was before: a refusal, or a question. */
    void keeps(String call, long want, Stage stage, ToIntFunction<SelectiveUndo> run) {
        String where = stage + ", " + call;
        SelectiveUndo asked = stage.made();
        String before = everyAnswer(asked, stage);
        answer(where, run.applyAsInt(asked), want);
        same(where + ": the answers", everyAnswer(asked, stage), before);

        SelectiveUndo called = stage.made();
        run.applyAsInt(called);
        same(where + ": what was hidden", whatIsHidden(called), whatIsHidden(stage.made()));
    }

    private void same(String what, String got, String want) {
        if (!got.equals(want)) {
            say(what + ": " + got + ", due is " + want);
        }
    }

    /** Asks every question, also past the last number; 240 calls at most, so that it can be done twice in 512. */
    private static String everyAnswer(SelectiveUndo x, Stage stage) {
        StringBuilder seen = new StringBuilder();
        seen.append(x.changes()).append(" changes, length ").append(x.length()).append(", digest ").append(x.digest());
        for (int k = -1; k <= stage.changes; k++) {
            seen.append(' ').append(x.isOn(k)).append('/').append(x.where(k)).append('/').append(x.covers(k));
            seen.append('/').append(x.coveredBy(k)).append('/').append(x.effect(k));
        }
        seen.append(", text");
        for (int p = 0; p <= stage.length; p++) {
            addPlace(seen, x, p);
        }
        return seen.toString();
    }

    /** What comes next, the whole list, what each erasing covers, and the room that is left; it uses the object up. */
    private static String whatIsHidden(SelectiveUndo x) {
        StringBuilder seen = new StringBuilder();
        seen.append("undo ").append(x.undo()).append(", redo ").append(x.redo()).append(", list");
        int changes = x.changes();
        for (int k = 0; k < changes; k++) {
            x.put(k, x.covers(k) == 0 ? 1 : 0);
        }
        int length = x.length();
        for (int p = 0; p < length; p++) {
            addPlace(seen, x, p);
        }
        for (int k = 0; k < changes; k++) {
            if (!x.isOn(k)) {
                seen.append(", change ").append(k).append(" covers");
                addCovered(seen, x, k);
            }
        }
        return seen.append(", room ").append(x.type(0, 0)).append(' ').append(x.type(0, 0)).toString();
    }

    private static void addPlace(StringBuilder seen, SelectiveUndo x, int p) {
        seen.append(' ').append(x.letter(p)).append('/').append(x.origin(p));
    }

    private static void addCovered(StringBuilder seen, SelectiveUndo x, int erasing) {
        x.put(erasing, 1);
        for (int k = 0; k < erasing; k++) {
            seen.append(' ').append(x.coveredBy(k));
        }
        x.put(erasing, 0);
    }

    void say(String fault) {
        wrong++;
        System.out.println(sentence + fault);
    }

    void end() {
        System.out.println(wrong == 0 ? "all answers are as due" : wrong + " answers are not as due");
        if (wrong != 0) {
            System.exit(1);
        }
    }
}
