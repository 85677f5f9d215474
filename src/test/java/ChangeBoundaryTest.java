/** The sentences of promises 1 to 3 that name a boundary, each quoted and tested on both of its sides. */
public final class ChangeBoundaryTest {
    private static final int BAD_ARG = SelectiveUndo.BAD_ARG;
    private static final int FULL = SelectiveUndo.FULL;
    private static final int NONE = SelectiveUndo.NONE;
    private static final int LEAST = Stage.LEAST;
    private static final int GREATEST = Stage.GREATEST;

    private static final Due due = new Due();
    private static final Stage[] WITH_ROOM = {Stage.NEW, Stage.WORD, Stage.ERASED, Stage.ERASED_OFF, Stage.ALMOST};
    private static final Stage[] WITHOUT_ROOM = {Stage.LONGEST, Stage.FILLED, Stage.FILLED_OFF};

    public static void main(String[] args) {
        aNewObjectHasNothing();
        aNewObjectRefuses();
        typeRefusesLetters();
        typeRefusesPlaces();
        typeIsFull();
        typeTestsInThisOrder();
        typeAnswersItsNumber();
        eraseRefusesIBelow0();
        eraseRefusesJNotAboveI();
        eraseRefusesJAboveTheLength();
        eraseIsFull();
        eraseTestsInThisOrder();
        eraseAnswersItsNumber();
        due.end();
    }

    private static void aNewObjectHasNothing() {
        due.sentence("Promise 1: No character, no change.");
        SelectiveUndo used = Stage.FILLED.made();
        SelectiveUndo x = new SelectiveUndo();
        due.answer("changes()", x.changes(), 0);
        due.answer("length()", x.length(), 0);
        due.answer("digest()", x.digest(), 0);
        for (int n : Stage.outside(0)) {
            due.answer("letter(" + n + ")", x.letter(n), NONE);
            due.answer("origin(" + n + ")", x.origin(n), NONE);
            due.answer("where(" + n + ")", x.where(n), NONE);
            due.answer("isOn(" + n + ")", x.isOn(n), false);
            due.answer("covers(" + n + ")", x.covers(n), BAD_ARG);
            due.answer("coveredBy(" + n + ")", x.coveredBy(n), BAD_ARG);
            due.answer("effect(" + n + ")", x.effect(n), 0);
        }
        due.answer("changes() of another object", used.changes(), 32);
        x.type(0, 25);
        due.answer("changes() behind a typing", x.changes(), 1);
        due.answer("length() behind a typing", x.length(), 1);
        due.answer("digest() behind a typing", x.digest(), 26);
    }

    private static void aNewObjectRefuses() {
        due.sentence("Promise 1: No character, no change.");
        due.keeps("type(1, 0)", BAD_ARG, Stage.NEW, x -> x.type(1, 0));
        due.keeps("erase(0, 1)", BAD_ARG, Stage.NEW, x -> x.erase(0, 1));
        due.keeps("put(0, 0)", BAD_ARG, Stage.NEW, x -> x.put(0, 0));
        due.keeps("undo()", NONE, Stage.NEW, SelectiveUndo::undo);
        due.keeps("redo()", NONE, Stage.NEW, SelectiveUndo::redo);
        due.keeps("flip(0, 0)", BAD_ARG, Stage.NEW, x -> x.flip(0, 0));
    }

    private static void typeRefusesLetters() {
        due.sentence("Promise 2: c not 0 to 25");
        for (Stage stage : Stage.values()) {
            for (int c : Stage.outside(26)) {
                due.keeps("type(0, " + c + ")", BAD_ARG, stage, x -> x.type(0, c));
                due.keeps("type(length, " + c + ")", BAD_ARG, stage, x -> x.type(stage.length, c));
            }
        }
        for (Stage stage : WITH_ROOM) {
            due.answer(stage + ", type(0, 0)", stage.made().type(0, 0), stage.changes);
            due.answer(stage + ", type(0, 25)", stage.made().type(0, 25), stage.changes);
        }
        for (Stage stage : WITHOUT_ROOM) {
            due.answer(stage + ", type(0, 0)", stage.made().type(0, 0), FULL);
            due.answer(stage + ", type(0, 25)", stage.made().type(0, 25), FULL);
        }
    }

    private static void typeRefusesPlaces() {
        due.sentence("Promise 2: or p not 0 to the length of the text, answers BAD_ARG");
        for (Stage stage : Stage.values()) {
            for (int p : Stage.outside(stage.length + 1)) {
                due.keeps("type(" + p + ", 0)", BAD_ARG, stage, x -> x.type(p, 0));
                due.keeps("type(" + p + ", 25)", BAD_ARG, stage, x -> x.type(p, 25));
            }
        }
        for (Stage stage : WITH_ROOM) {
            SelectiveUndo first = stage.made();
            due.answer(stage + ", type(0, 25)", first.type(0, 25), stage.changes);
            due.answer(stage + ", where it is", first.where(stage.changes), 0);
            SelectiveUndo last = stage.made();
            due.answer(stage + ", type(length, 25)", last.type(stage.length, 25), stage.changes);
            due.answer(stage + ", where it is", last.where(stage.changes), stage.length);
        }
        for (Stage stage : WITHOUT_ROOM) {
            due.answer(stage + ", type(length, 25)", stage.made().type(stage.length, 25), FULL);
        }
    }

    // No run comes to 48 characters, as each is typed by one of at most 32 changes: see TermsBoundaryTest.
    private static void typeIsFull() {
        due.sentence("Promise 2: there are 32 changes or 48 characters answers FULL");
        for (Stage stage : WITHOUT_ROOM) {
            due.keeps("type(0, 0)", FULL, stage, x -> x.type(0, 0));
            due.keeps("type(length, 25)", FULL, stage, x -> x.type(stage.length, 25));
        }
        SelectiveUndo x = Stage.ALMOST.made();
        due.answer("type(31, 4) with 31 changes", x.type(31, 4), 31);
        due.answer("letter(31)", x.letter(31), 4);
        due.answer("type(31, 4) with 32 changes", x.type(31, 4), FULL);
        due.answer("length()", x.length(), 32);
    }

    private static void typeTestsInThisOrder() {
        due.sentence("Promise 2: Tested in this order");
        int[] wrongLetters = {LEAST, -1, 26, GREATEST};
        for (Stage stage : WITHOUT_ROOM) {
            int[] wrongPlaces = {LEAST, -1, stage.length + 1, GREATEST};
            for (int p : wrongPlaces) {
                due.keeps("type(" + p + ", 0)", BAD_ARG, stage, x -> x.type(p, 0));
                for (int c : wrongLetters) {
                    due.keeps("type(0, " + c + ")", BAD_ARG, stage, x -> x.type(0, c));
                    due.keeps("type(" + p + ", " + c + ")", BAD_ARG, stage, x -> x.type(p, c));
                }
            }
            due.keeps("type(0, 0)", FULL, stage, x -> x.type(0, 0));
        }
    }

    private static void typeAnswersItsNumber() {
        due.sentence("Promise 2: Otherwise its number.");
        for (Stage stage : WITH_ROOM) {
            SelectiveUndo x = stage.made();
            due.answer(stage + ", type(0, 3)", x.type(0, 3), stage.changes);
            due.answer(stage + ", origin(0)", x.origin(0), stage.changes);
            due.answer(stage + ", letter(0)", x.letter(0), 3);
            due.answer(stage + ", changes()", x.changes(), stage.changes + 1);
            due.answer(stage + ", length()", x.length(), stage.length + 1);
        }
    }

    private static void eraseRefusesIBelow0() {
        due.sentence("Promise 3: i < 0");
        int[] below = {LEAST, LEAST + 1, -64, -32, -2, -1};
        for (Stage stage : Stage.values()) {
            for (int i : below) {
                due.keeps("erase(" + i + ", 0)", BAD_ARG, stage, x -> x.erase(i, 0));
                due.keeps("erase(" + i + ", 1)", BAD_ARG, stage, x -> x.erase(i, 1));
                due.keeps("erase(" + i + ", length)", BAD_ARG, stage, x -> x.erase(i, stage.length));
            }
        }
        due.answer("WORD, erase(0, 1)", Stage.WORD.made().erase(0, 1), 5);
        due.answer("ERASED, erase(0, 3)", Stage.ERASED.made().erase(0, 3), 7);
        due.answer("ALMOST, erase(0, 1)", Stage.ALMOST.made().erase(0, 1), 31);
        due.answer("LONGEST, erase(0, 1)", Stage.LONGEST.made().erase(0, 1), FULL);
    }

    private static void eraseRefusesJNotAboveI() {
        due.sentence("Promise 3: j <= i");
        for (Stage stage : Stage.values()) {
            for (int place = 0; place <= stage.length; place++) {
                int i = place;
                due.keeps("erase(" + i + ", " + i + ")", BAD_ARG, stage, x -> x.erase(i, i));
                due.keeps("erase(" + i + ", " + (i - 1) + ")", BAD_ARG, stage, x -> x.erase(i, i - 1));
                due.keeps("erase(" + i + ", least)", BAD_ARG, stage, x -> x.erase(i, LEAST));
            }
            due.keeps("erase(greatest, 1)", BAD_ARG, stage, x -> x.erase(GREATEST, 1));
            due.keeps("erase(greatest, greatest)", BAD_ARG, stage, x -> x.erase(GREATEST, GREATEST));
            due.keeps("erase(greatest, least)", BAD_ARG, stage, x -> x.erase(GREATEST, LEAST));
        }
        for (int i = 0; i < 5; i++) {
            SelectiveUndo x = Stage.WORD.made();
            due.answer("WORD, erase(" + i + ", " + (i + 1) + ")", x.erase(i, i + 1), 5);
            due.answer("WORD, erase(" + i + ", " + (i + 1) + "), length()", x.length(), 4);
        }
        due.answer("ALMOST, erase(30, 31)", Stage.ALMOST.made().erase(30, 31), 31);
        due.answer("LONGEST, erase(31, 32)", Stage.LONGEST.made().erase(31, 32), FULL);
    }

    private static void eraseRefusesJAboveTheLength() {
        due.sentence("Promise 3: or j greater than the length of the text, answers BAD_ARG");
        for (Stage stage : Stage.values()) {
            int first = stage.length + 1;
            int[] above = {first, first + 1, first + 31, first + 32, first + 64, GREATEST - 1, GREATEST};
            for (int j : above) {
                due.keeps("erase(0, " + j + ")", BAD_ARG, stage, x -> x.erase(0, j));
                due.keeps("erase(length, " + j + ")", BAD_ARG, stage, x -> x.erase(stage.length, j));
                due.keeps("erase(" + (j - 1) + ", " + j + ")", BAD_ARG, stage, x -> x.erase(j - 1, j));
            }
        }
        Stage[] withText = {Stage.WORD, Stage.ERASED, Stage.ALMOST};
        for (Stage stage : withText) {
            SelectiveUndo all = stage.made();
            due.answer(stage + ", erase(0, length)", all.erase(0, stage.length), stage.changes);
            due.answer(stage + ", length() then", all.length(), 0);
            SelectiveUndo last = stage.made();
            int answer = last.erase(stage.length - 1, stage.length);
            due.answer(stage + ", erase(length - 1, length)", answer, stage.changes);
            due.answer(stage + ", length() then", last.length(), stage.length - 1);
        }
    }

    private static void eraseIsFull() {
        due.sentence("Promise 3: there are 32 changes answers FULL");
        Stage[] withText = {Stage.LONGEST, Stage.FILLED};
        for (Stage stage : withText) {
            due.keeps("erase(0, 1)", FULL, stage, x -> x.erase(0, 1));
            due.keeps("erase(0, length)", FULL, stage, x -> x.erase(0, stage.length));
            due.keeps("erase(length - 1, length)", FULL, stage, x -> x.erase(stage.length - 1, stage.length));
        }
        SelectiveUndo x = Stage.ALMOST.made();
        due.answer("erase(0, 30) with 31 changes", x.erase(0, 30), 31);
        due.answer("erase(0, 1) with 32 changes", x.erase(0, 1), FULL);
        due.answer("length()", x.length(), 1);
    }

    private static void eraseTestsInThisOrder() {
        due.sentence("Promise 3: Tested in this order");
        for (Stage stage : WITHOUT_ROOM) {
            int length = stage.length;
            int[][] wrong = {{-1, 1}, {LEAST, 1}, {0, 0}, {1, 0}, {0, LEAST}, {0, length + 1}, {length, length + 1},
                {0, GREATEST}, {-1, length + 1}, {LEAST, GREATEST}, {GREATEST, LEAST}, {-1, -1},
                {length + 2, length + 1}};
            for (int[] range : wrong) {
                String call = "erase(" + range[0] + ", " + range[1] + ")";
                due.keeps(call, BAD_ARG, stage, x -> x.erase(range[0], range[1]));
            }
        }
        due.keeps("erase(0, 27)", FULL, Stage.FILLED, x -> x.erase(0, 27));
        due.keeps("erase(0, 32)", FULL, Stage.LONGEST, x -> x.erase(0, 32));
        due.keeps("erase(0, 1) of no text", BAD_ARG, Stage.FILLED_OFF, x -> x.erase(0, 1));
    }

    private static void eraseAnswersItsNumber() {
        due.sentence("Promise 3: Otherwise its number.");
        Stage[] withText = {Stage.WORD, Stage.ERASED, Stage.ALMOST};
        for (Stage stage : withText) {
            SelectiveUndo x = stage.made();
            due.answer(stage + ", erase(0, 1)", x.erase(0, 1), stage.changes);
            due.answer(stage + ", covers", x.covers(stage.changes), 1);
            due.answer(stage + ", changes()", x.changes(), stage.changes + 1);
        }
        SelectiveUndo soonest = new SelectiveUndo();
        soonest.type(0, 0);
        due.answer("erase(0, 1) of the first character", soonest.erase(0, 1), 1);
    }
}
