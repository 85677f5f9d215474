/** The sentences before the promises that name a boundary, each quoted and tested on both of its sides. */
public final class TermsBoundaryTest {
    private static final int FULL = SelectiveUndo.FULL;
    private static final int NONE = SelectiveUndo.NONE;
    private static final int[] ANY_INT = {Stage.LEAST, -33, -1, 0, 1, 3, 6, 26, 27, 31, 32, 64, Stage.GREATEST};

    private static final Due due = new Due();

    public static void main(String[] args) {
        lettersAre0To25();
        placesBeginAt0();
        theListHasAtMost48Characters();
        changesAreNumberedFrom0();
        thereAreAtMost32Changes();
        aChangeIsOnWhenItIsMade();
        typingAtTheVeryBegin();
        typingDirectlyBehind();
        erasingCoversPlacesIToJMinus1();
        shownIfOnAndNotCovered();
        theCodesAreTheNumbersNamed();
        noCallEverThrows();
        aRefusedCallChangesNothing();
        laterCallsEndToo();
        due.end();
    }

    private static void lettersAre0To25() {
        due.sentence("with its letter (0 to 25)");
        Stage[] withRoom = {Stage.NEW, Stage.ERASED, Stage.ALMOST};
        for (Stage stage : withRoom) {
            for (int c = 0; c <= 25; c++) {
                SelectiveUndo x = stage.made();
                due.answer(stage + ", type(0, " + c + ")", x.type(0, c), stage.changes);
                due.answer(stage + ", letter(0) behind type(0, " + c + ")", x.letter(0), c);
            }
        }
    }

    private static void placesBeginAt0() {
        due.sentence("its places begin at 0");
        SelectiveUndo one = new SelectiveUndo();
        due.answer("letter(0) of nothing", one.letter(0), NONE);
        one.type(0, 25);
        due.answer("letter(0) of z", one.letter(0), 25);
        due.answer("where(0) of z", one.where(0), 0);
        due.answer("letter(-1) of z", one.letter(-1), NONE);
        due.answer("letter(1) of z", one.letter(1), NONE);
        SelectiveUndo longest = Stage.LONGEST.made();
        due.answer("origin(0) of the longest", longest.origin(0), 0);
        due.answer("origin(-1) of the longest", longest.origin(-1), NONE);
        due.answer("origin(31) of the longest", longest.origin(31), 31);
    }

    /*
     * No run of calls comes to 48 characters: a character comes into the list by a typing alone, each typing
     * is one of at most 32 changes, and no change ever goes; so the list has at most 32 characters, and the
     * 32 changes refuse the next typing before the 48 characters could. The class tests its list's length
     * against 48 all the same. What a run can show is tested here: that the list grows by no other call,
     * and that no typing is taken beyond the 32 that the changes allow, whether its characters show or not.
     */
    private static void theListHasAtMost48Characters() {
        due.sentence("The list has at most 48 characters.");
        SelectiveUndo x = new SelectiveUndo();
        for (int n = 0; n < 49; n++) {
            due.answer("typing " + n, x.type(0, n % 26), n < 32 ? n : FULL);
            due.answer("length() behind typing " + n, x.length(), Math.min(n + 1, 32));
        }
        SelectiveUndo hidden = new SelectiveUndo();
        for (int n = 0; n < 49; n++) {
            due.answer("typing " + n + " with all off", hidden.type(0, n % 26), n < 32 ? n : FULL);
            hidden.put(n, 0);
        }
        due.answer("length() with all off", hidden.length(), 0);
        due.answer("flip(0, 31)", hidden.flip(0, 31), 32);
        due.answer("length() of the whole list", hidden.length(), 32);
    }

    private static void changesAreNumberedFrom0() {
        due.sentence("CHANGES are numbered 0, 1, .. in the order in which they were made");
        SelectiveUndo x = new SelectiveUndo();
        for (int n = 0; n < 32; n += 2) {
            due.answer("a typing as change " + n, x.type(0, 0), n);
            due.answer("an erasing as change " + (n + 1), x.erase(0, 1), n + 1);
            due.answer("covers(" + n + ")", x.covers(n), 0);
            due.answer("covers(" + (n + 1) + ")", x.covers(n + 1), 1);
        }
    }

    private static void thereAreAtMost32Changes() {
        due.sentence("at most 32");
        SelectiveUndo typed = Stage.ALMOST.made();
        due.answer("a typing as change 31", typed.type(0, 0), 31);
        due.answer("a typing as change 32", typed.type(0, 0), FULL);
        due.answer("an erasing as change 32", typed.erase(0, 1), FULL);
        due.answer("changes()", typed.changes(), 32);
        SelectiveUndo erased = Stage.ALMOST.made();
        due.answer("an erasing as change 31", erased.erase(0, 30), 31);
        due.answer("an erasing as change 32", erased.erase(0, 1), FULL);
        due.answer("a typing as change 32", erased.type(0, 0), FULL);
        due.answer("changes()", erased.changes(), 32);
        due.answer("undo()", erased.undo(), 31);
        due.answer("a typing as change 32 with one undone", erased.type(0, 0), FULL);
        SelectiveUndo refused = new SelectiveUndo();
        for (int n = 0; n < 33; n++) {
            refused.type(0, 26);
            refused.erase(0, 0);
            due.answer("typing " + n + " between refused ones", refused.type(0, 0), n < 32 ? n : FULL);
        }
    }

    private static void aChangeIsOnWhenItIsMade() {
        due.sentence("each is ON or OFF, and on when it is made");
        SelectiveUndo x = new SelectiveUndo();
        for (int k = 0; k < 32; k++) {
            due.answer("isOn(" + k + ") before it is made", x.isOn(k), false);
            if (k % 2 == 0) {
                x.type(0, 1);
            } else {
                x.erase(0, 1);
            }
            due.answer("isOn(" + k + ") when it is made", x.isOn(k), true);
            x.put(k, 0);
            due.answer("isOn(" + k + ") when it is put off", x.isOn(k), false);
            x.put(k, k % 2 == 0 ? 1 : 0);
        }
        SelectiveUndo off = Stage.ERASED_OFF.made();
        off.type(0, 3);
        for (int k = 0; k <= 7; k++) {
            due.answer("isOn(" + k + ") when 7 is made, the rest being off", off.isOn(k), k == 7);
        }
    }

    private static void typingAtTheVeryBegin() {
        due.sentence("for p = 0 at its very begin");
        SelectiveUndo x = Stage.WORD.made();
        x.erase(0, 2);
        due.text("ab erased", x, "cde");
        x.type(0, 25);
        x.type(1, 24);
        due.text("zy typed before c", x, "zycde");
        x.put(5, 0);
        due.text("y is behind z, and both are before what was hidden", x, "zyabcde");
        SelectiveUndo off = Stage.ERASED_OFF.made();
        off.type(0, 25);
        off.flip(0, 4);
        due.text("z typed when the text was empty but the list was not", off, "zabcde");
        SelectiveUndo empty = new SelectiveUndo();
        empty.type(0, 25);
        due.text("z typed into the empty list", empty, "z");
    }

    private static void typingDirectlyBehind() {
        due.sentence("else directly behind the character that stood at place p - 1 of the text at that moment");
        SelectiveUndo x = Stage.WORD.made();
        x.put(1, 0);
        x.put(4, 0);
        due.text("b and e off", x, "acd");
        x.type(1, 25);
        x.type(4, 24);
        due.text("z behind a, y at the end", x, "azcdy");
        x.put(1, 1);
        x.put(4, 1);
        due.text("z and y are before what was hidden", x, "azbcdye");
        x.put(0, 0);
        due.text("z stays where it is when a goes", x, "zbcdye");
        SelectiveUndo almost = Stage.ALMOST.made();
        due.answer("type(31, 25) at the end as the last change", almost.type(31, 25), 31);
        due.answer("where(31)", almost.where(31), 31);
    }

    private static void erasingCoversPlacesIToJMinus1() {
        due.sentence("it COVERS the characters that stood at the places i to j - 1 of the text at that moment");
        for (int i = 0; i < 5; i++) {
            for (int j = i + 1; j <= 5; j++) {
                SelectiveUndo x = Stage.WORD.made();
                x.erase(i, j);
                for (int k = 0; k < 5; k++) {
                    int covered = k >= i && k < j ? 1 : 0;
                    due.answer("erase(" + i + ", " + j + "), coveredBy(" + k + ")", x.coveredBy(k), covered);
                }
            }
        }
        SelectiveUndo y = Stage.WORD.made();
        y.put(2, 0);
        y.erase(1, 3);
        y.put(2, 1);
        due.text("c was not in the text, b and d were", y, "ace");
        y.put(5, 0);
        y.type(2, 25);
        y.put(5, 1);
        due.text("z came between b and d later", y, "azce");
    }

    private static void shownIfOnAndNotCovered() {
        due.sentence("A character is shown if the change that typed it is on and no change that is on covers it.");
        for (int mask = 0; mask < 8; mask++) {
            SelectiveUndo x = new SelectiveUndo();
            x.type(0, 7);
            x.erase(0, 1);
            x.put(1, 0);
            x.erase(0, 1);
            for (int k = 0; k < 3; k++) {
                x.put(k, mask >> k & 1);
            }
            String when = "typing, covering, covering on: " + (mask & 1) + (mask >> 1 & 1) + (mask >> 2);
            due.text(when, x, mask == 1 ? "h" : "");
            due.answer(when + ", where(0)", x.where(0), mask == 1 ? 0 : NONE);
        }
    }

    private static void theCodesAreTheNumbersNamed() {
        due.sentence("`BAD_ARG = -1`: An argument is out of its range.");
        due.answer("BAD_ARG", SelectiveUndo.BAD_ARG, -1);
        due.answer("type(0, 26)", new SelectiveUndo().type(0, 26), -1);
        due.sentence("`FULL = -2`: A limit is reached.");
        due.answer("FULL", SelectiveUndo.FULL, -2);
        due.answer("type(0, 25) with 32 changes", Stage.LONGEST.made().type(0, 25), -2);
        due.sentence("`NONE = -4`: There is no such thing.");
        due.answer("NONE", SelectiveUndo.NONE, -4);
        due.answer("undo() without a change", new SelectiveUndo().undo(), -4);
    }

    private static void noCallEverThrows() {
        due.sentence("No call ever throws.");
        for (Stage stage : Stage.values()) {
            forAnyInts(Call.values(), (call, a, b) -> endsWell(stage, stage.made(), call, a, b));
        }
    }

    private static void aRefusedCallChangesNothing() {
        due.sentence("A refused call answers the code named and changes nothing.");
        for (Stage stage : Stage.values()) {
            forAnyInts(Call.CHANGING, (call, a, b) -> {
                int answer = call.answer(stage.made(), a, b);
                if (answer < 0) {
                    due.keeps(call.told(a, b), answer, stage, x -> call.answer(x, a, b));
                }
            });
        }
    }

    /** Though their answers are free, LANGUAGE.md's rule 7 holds in any state. */
    private static void laterCallsEndToo() {
        due.sentence("what later calls answer is free");
        for (Stage stage : Stage.values()) {
            SelectiveUndo x = stage.made();
            forAnyInts(Call.values(), (call, a, b) -> endsWell(stage, x, call, a, b));
        }
    }

    private interface Case {
        void run(Call call, int a, int b);
    }

    private static void forAnyInts(Call[] calls, Case each) {
        for (Call call : calls) {
            for (int a : ANY_INT) {
                for (int b : ANY_INT) {
                    each.run(call, a, b);
                }
            }
        }
    }

    private static void endsWell(Stage stage, SelectiveUndo x, Call call, int a, int b) {
        try {
            call.answer(x, a, b);
        } catch (Throwable thrown) {
            due.say(stage + ", " + call.told(a, b) + " threw " + thrown);
        }
    }
}
