/** The sentences of promises 4 to 7 that name a boundary, each quoted and tested on both of its sides. */
public final class SwitchBoundaryTest {
    private static final int BAD_ARG = SelectiveUndo.BAD_ARG;
    private static final int NONE = SelectiveUndo.NONE;
    private static final int LEAST = Stage.LEAST;
    private static final int GREATEST = Stage.GREATEST;
    /** Numbers that are not 0, among them some of which a narrow type would keep only zeros. */
    private static final int[] NOT_0 = {LEAST, LEAST + 1, -65536, -256, -2, -1, 1, 2, 256, 65536, GREATEST};

    private static final Due due = new Due();
    private static final Stage[] WITH_CHANGES = {Stage.WORD, Stage.ERASED, Stage.ALMOST, Stage.LONGEST, Stage.FILLED};
    private static final Stage[] ALL_ON = {Stage.WORD, Stage.ERASED, Stage.ALMOST, Stage.LONGEST};
    private static final Stage[] ALL_OFF = {Stage.ERASED_OFF, Stage.FILLED_OFF};

    public static void main(String[] args) {
        putOffBy0OnByAnythingElse();
        putRefusesWhatIsNoChange();
        putAnswersWhatWasBefore();
        undoPutsTheHighestOff();
        undoAnswersNone();
        redoPutsTheLowestOn();
        redoAnswersNone();
        flipIncludesBothEnds();
        flipRefusesABelow0();
        flipRefusesBBelowA();
        flipRefusesBThatIsNoChange();
        flipAnswersHowManyAreOn();
        due.end();
    }

    private static void putOffBy0OnByAnythingElse() {
        due.sentence("Promise 4: Puts change k off (on = 0) or on (on not 0).");
        for (Stage stage : WITH_CHANGES) {
            int[] ends = {0, stage.changes - 1};
            for (int k : ends) {
                SelectiveUndo x = stage.made();
                for (int on : NOT_0) {
                    x.put(k, 0);
                    due.answer(stage + ", isOn(" + k + ") behind put(" + k + ", 0)", x.isOn(k), false);
                    x.put(k, on);
                    due.answer(stage + ", isOn(" + k + ") behind put(" + k + ", " + on + ")", x.isOn(k), true);
                    x.put(k, on);
                    due.answer(stage + ", isOn(" + k + ") behind it twice", x.isOn(k), true);
                }
            }
        }
        SelectiveUndo word = Stage.WORD.made();
        word.put(2, 0);
        due.text("c off", word, "abde");
        word.put(2, LEAST);
        due.text("c on by the least int", word, "abcde");
    }

    private static void putRefusesWhatIsNoChange() {
        due.sentence("Promise 4: BAD_ARG if there is no change k.");
        for (Stage stage : Stage.values()) {
            for (int k : stage.noChange()) {
                due.keeps("put(" + k + ", 0)", BAD_ARG, stage, x -> x.put(k, 0));
                due.keeps("put(" + k + ", 1)", BAD_ARG, stage, x -> x.put(k, 1));
                due.keeps("put(" + k + ", least)", BAD_ARG, stage, x -> x.put(k, LEAST));
            }
        }
        for (Stage stage : WITH_CHANGES) {
            int last = stage.changes - 1;
            due.answer(stage + ", put(0, 1)", stage.made().put(0, 1), 1);
            due.answer(stage + ", put(" + last + ", 1)", stage.made().put(last, 1), 1);
        }
    }

    private static void putAnswersWhatWasBefore() {
        due.sentence("Promise 4: Otherwise 1 if it was on before, else 0.");
        for (Stage stage : WITH_CHANGES) {
            SelectiveUndo x = stage.made();
            int[] ends = {0, stage.changes - 1};
            for (int k : ends) {
                due.answer(stage + ", put(" + k + ", 0) when new", x.put(k, 0), 1);
                due.answer(stage + ", put(" + k + ", 0) when off", x.put(k, 0), 0);
                due.answer(stage + ", put(" + k + ", -1) when off", x.put(k, -1), 0);
                due.answer(stage + ", put(" + k + ", 5) when on", x.put(k, 5), 1);
            }
        }
    }

    private static void undoPutsTheHighestOff() {
        due.sentence("Promise 5: Puts the highest-numbered change that is on off.");
        for (Stage stage : ALL_ON) {
            SelectiveUndo x = stage.made();
            for (int k = stage.changes - 1; k >= 0; k--) {
                due.answer(stage + ", undo()", x.undo(), k);
                due.answer(stage + ", isOn(" + k + ")", x.isOn(k), false);
                due.answer(stage + ", isOn(" + (k - 1) + ")", x.isOn(k - 1), k > 0);
            }
        }
        SelectiveUndo filled = Stage.FILLED.made();
        filled.flip(8, 31);
        due.answer("FILLED with 7 to 31 off, undo()", filled.undo(), 6);
    }

    private static void undoAnswersNone() {
        due.sentence("Promise 5: NONE if none is on.");
        due.keeps("undo() where there is no change at all", NONE, Stage.NEW, SelectiveUndo::undo);
        for (Stage stage : ALL_OFF) {
            due.keeps("undo() where no change is on", NONE, stage, SelectiveUndo::undo);
            int[] ends = {0, stage.changes - 1};
            for (int k : ends) {
                SelectiveUndo x = stage.made();
                x.put(k, 1);
                due.answer(stage + ", undo() where only " + k + " is on", x.undo(), k);
                due.answer(stage + ", undo() then", x.undo(), NONE);
            }
        }
        for (Stage stage : ALL_ON) {
            due.answer(stage + ", undo() where none is off", stage.made().undo(), stage.changes - 1);
        }
    }

    private static void redoPutsTheLowestOn() {
        due.sentence("Promise 6: Puts the lowest-numbered change that is off on.");
        for (Stage stage : ALL_OFF) {
            SelectiveUndo x = stage.made();
            for (int k = 0; k < stage.changes; k++) {
                due.answer(stage + ", redo()", x.redo(), k);
                due.answer(stage + ", isOn(" + k + ")", x.isOn(k), true);
                due.answer(stage + ", isOn(" + (k + 1) + ")", x.isOn(k + 1), false);
            }
        }
        due.answer("FILLED with 7 off, redo()", Stage.FILLED.made().redo(), 7);
    }

    private static void redoAnswersNone() {
        due.sentence("Promise 6: NONE if none is off.");
        due.keeps("redo() where there is no change at all", NONE, Stage.NEW, SelectiveUndo::redo);
        for (Stage stage : ALL_ON) {
            due.keeps("redo() where none is off", NONE, stage, SelectiveUndo::redo);
            int[] ends = {0, stage.changes - 1};
            for (int k : ends) {
                SelectiveUndo x = stage.made();
                x.put(k, 0);
                due.answer(stage + ", redo() where only " + k + " is off", x.redo(), k);
                due.answer(stage + ", redo() then", x.redo(), NONE);
            }
        }
        for (Stage stage : ALL_OFF) {
            due.answer(stage + ", redo() where no change is on", stage.made().redo(), 0);
        }
    }

    private static void flipIncludesBothEnds() {
        due.sentence("Promise 7: Puts all changes with the numbers a to b (both included) that are on off "
                + "and those that are off on.");
        for (Stage stage : WITH_CHANGES) {
            int last = stage.changes - 1;
            int[][] ranges = {{0, 0}, {0, last}, {last, last}, {1, last}, {0, last - 1}, {1, 3}, {last - 1, last}};
            for (int[] range : ranges) {
                flipTurnsNoOther(stage, range[0], range[1]);
            }
        }
    }

    private static void flipTurnsNoOther(Stage stage, int a, int b) {
        SelectiveUndo x = stage.made();
        SelectiveUndo before = stage.made();
        x.flip(a, b);
        for (int k = 0; k < stage.changes; k++) {
            boolean turned = k >= a && k <= b;
            due.answer(stage + ", flip(" + a + ", " + b + "), isOn(" + k + ")", x.isOn(k), before.isOn(k) != turned);
        }
    }

    private static void flipRefusesABelow0() {
        due.sentence("Promise 7: BAD_ARG if a < 0");
        int[] below = {LEAST, LEAST + 1, -64, -32, -2, -1};
        for (Stage stage : Stage.values()) {
            for (int a : below) {
                due.keeps("flip(" + a + ", last)", BAD_ARG, stage, x -> x.flip(a, stage.changes - 1));
                due.keeps("flip(" + a + ", 0)", BAD_ARG, stage, x -> x.flip(a, 0));
                due.keeps("flip(" + a + ", " + a + ")", BAD_ARG, stage, x -> x.flip(a, a));
            }
        }
        for (Stage stage : ALL_ON) {
            due.answer(stage + ", flip(0, 0)", stage.made().flip(0, 0), 0);
        }
    }

    private static void flipRefusesBBelowA() {
        due.sentence("Promise 7: b < a");
        for (Stage stage : WITH_CHANGES) {
            for (int change = 0; change < stage.changes; change++) {
                int a = change;
                due.keeps("flip(" + a + ", " + (a - 1) + ")", BAD_ARG, stage, x -> x.flip(a, a - 1));
                due.keeps("flip(" + a + ", least)", BAD_ARG, stage, x -> x.flip(a, LEAST));
                int after = stage.made().isOn(a) ? 0 : 1;
                due.answer(stage + ", flip(" + a + ", " + a + ")", stage.made().flip(a, a), after);
            }
            due.keeps("flip(changes, last)", BAD_ARG, stage, x -> x.flip(stage.changes, stage.changes - 1));
            due.keeps("flip(greatest, 0)", BAD_ARG, stage, x -> x.flip(GREATEST, 0));
            due.keeps("flip(greatest, least)", BAD_ARG, stage, x -> x.flip(GREATEST, LEAST));
        }
        due.keeps("flip(0, -1)", BAD_ARG, Stage.NEW, x -> x.flip(0, -1));
        due.keeps("flip(1, 0)", BAD_ARG, Stage.NEW, x -> x.flip(1, 0));
    }

    private static void flipRefusesBThatIsNoChange() {
        due.sentence("Promise 7: or there is no change b.");
        for (Stage stage : Stage.values()) {
            for (int b : stage.noChange()) {
                due.keeps("flip(0, " + b + ")", BAD_ARG, stage, x -> x.flip(0, b));
                due.keeps("flip(last, " + b + ")", BAD_ARG, stage, x -> x.flip(stage.changes - 1, b));
                due.keeps("flip(" + b + ", " + b + ")", BAD_ARG, stage, x -> x.flip(b, b));
            }
        }
        for (Stage stage : ALL_ON) {
            int last = stage.changes - 1;
            due.answer(stage + ", flip(0, " + last + ")", stage.made().flip(0, last), 0);
            due.answer(stage + ", flip(" + last + ", " + last + ")", stage.made().flip(last, last), 0);
        }
    }

    private static void flipAnswersHowManyAreOn() {
        due.sentence("Promise 7: Otherwise how many are on of them afterwards.");
        for (Stage stage : ALL_ON) {
            SelectiveUndo x = stage.made();
            int last = stage.changes - 1;
            due.answer(stage + ", flip of all that are on", x.flip(0, last), 0);
            due.answer(stage + ", flip of all that are off", x.flip(0, last), stage.changes);
            due.answer(stage + ", flip of the first alone", x.flip(0, 0), 0);
            due.answer(stage + ", flip of all with the first off", x.flip(0, last), 1);
            due.answer(stage + ", flip of all but the first", x.flip(1, last), stage.changes - 1);
        }
        due.answer("FILLED, flip of all with one off", Stage.FILLED.made().flip(0, 31), 1);
        due.answer("FILLED_OFF, flip of all", Stage.FILLED_OFF.made().flip(0, 31), 32);
    }
}
