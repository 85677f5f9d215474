/** The sentences of promises 8 to 18 that name a boundary, each quoted and tested on both of its sides. */
public final class QuestionBoundaryTest {
    private static final int BAD_ARG = SelectiveUndo.BAD_ARG;
    private static final int FULL = SelectiveUndo.FULL;
    private static final int NONE = SelectiveUndo.NONE;

    private static final Due due = new Due();

    public static void main(String[] args) {
        changesFrom0To32();
        isOnOfWhatIsNoChange();
        lengthFrom0To32();
        letterOfWhatIsNoPlace();
        originOfWhatIsNoPlace();
        whereOfWhatIsNoChange();
        whereOfAnErasing();
        whereOfWhatIsNotShown();
        coversFrom1To31();
        coversOfATyping();
        coversOfWhatIsNoChange();
        coveredByFrom0To31();
        coveredByOfWhatIsNoChange();
        coveredByOfAnErasing();
        coveredByTestsBadArgFirst();
        effectOfTurningAChange();
        effectOfWhatIsNoChange();
        digestFromNothingToTheGreatest();
        due.end();
    }

    private static void changesFrom0To32() {
        due.sentence("Promise 8: The number of changes.");
        for (Stage stage : Stage.values()) {
            due.keeps("changes()", stage.changes, stage, SelectiveUndo::changes);
        }
        SelectiveUndo x = new SelectiveUndo();
        for (int n = 0; n < 32; n++) {
            due.answer("changes() before change " + n, x.changes(), n);
            due.answer("type(0, 26)", x.type(0, 26), BAD_ARG);
            due.answer("changes() when one was refused", x.changes(), n);
            x.type(0, 0);
            x.undo();
            due.answer("changes() when it is undone", x.changes(), n + 1);
        }
        due.answer("type(0, 0)", x.type(0, 0), FULL);
        due.answer("changes() when full", x.changes(), 32);
    }

    private static void isOnOfWhatIsNoChange() {
        due.sentence("Promise 9: false if there is no change k.");
        for (Stage stage : Stage.values()) {
            for (int k : stage.noChange()) {
                due.keeps("isOn(" + k + ")", 0, stage, x -> x.isOn(k) ? 1 : 0);
            }
        }
        Stage[] allOn = {Stage.WORD, Stage.ERASED, Stage.ALMOST, Stage.LONGEST};
        for (Stage stage : allOn) {
            for (int k = 0; k < stage.changes; k++) {
                due.answer(stage + ", isOn(" + k + ")", stage.made().isOn(k), true);
            }
        }
        Stage[] allOff = {Stage.ERASED_OFF, Stage.FILLED_OFF};
        for (Stage stage : allOff) {
            for (int k = 0; k < stage.changes; k++) {
                due.answer(stage + ", isOn(" + k + ")", stage.made().isOn(k), false);
            }
        }
    }

    private static void lengthFrom0To32() {
        due.sentence("Promise 10: The length of the text.");
        for (Stage stage : Stage.values()) {
            due.keeps("length()", stage.length, stage, SelectiveUndo::length);
        }
        SelectiveUndo x = new SelectiveUndo();
        for (int n = 0; n < 31; n++) {
            due.answer("length() before typing " + n, x.length(), n);
            x.type(n, 0);
        }
        x.erase(0, 31);
        due.answer("length() with all erased", x.length(), 0);
        x.undo();
        due.answer("length() with the erasing undone", x.length(), 31);
    }

    private static void letterOfWhatIsNoPlace() {
        due.sentence("Promise 11: The letter at place p of the text; NONE if there is none.");
        for (Stage stage : Stage.values()) {
            for (int p : stage.noPlace()) {
                due.keeps("letter(" + p + ")", NONE, stage, x -> x.letter(p));
            }
        }
        due.answer("ERASED, letter(0)", Stage.ERASED.made().letter(0), 0);
        due.answer("ERASED, letter(2)", Stage.ERASED.made().letter(2), 4);
        due.answer("LONGEST, letter(0)", Stage.LONGEST.made().letter(0), 0);
        due.answer("LONGEST, letter(25)", Stage.LONGEST.made().letter(25), 25);
        due.answer("LONGEST, letter(31)", Stage.LONGEST.made().letter(31), 5);
        due.answer("FILLED, letter(0)", Stage.FILLED.made().letter(0), 1);
        due.answer("FILLED, letter(26)", Stage.FILLED.made().letter(26), 2);
    }

    private static void originOfWhatIsNoPlace() {
        due.sentence("Promise 12: The number of the change that typed the character at place p of the text; "
                + "NONE if there is none.");
        for (Stage stage : Stage.values()) {
            for (int p : stage.noPlace()) {
                due.keeps("origin(" + p + ")", NONE, stage, x -> x.origin(p));
            }
        }
        due.answer("ERASED, origin(0)", Stage.ERASED.made().origin(0), 0);
        due.answer("ERASED, origin(2)", Stage.ERASED.made().origin(2), 4);
        due.answer("LONGEST, origin(0)", Stage.LONGEST.made().origin(0), 0);
        due.answer("LONGEST, origin(31)", Stage.LONGEST.made().origin(31), 31);
        due.answer("FILLED, origin(0)", Stage.FILLED.made().origin(0), 1);
        due.answer("FILLED, origin(26)", Stage.FILLED.made().origin(26), 28);
    }

    private static void whereOfWhatIsNoChange() {
        due.sentence("Promise 13: NONE if there is no change k");
        for (Stage stage : Stage.values()) {
            for (int k : stage.noChange()) {
                due.keeps("where(" + k + ")", NONE, stage, x -> x.where(k));
            }
        }
        due.answer("ERASED, where(0)", Stage.ERASED.made().where(0), 0);
        due.answer("ERASED, where(6)", Stage.ERASED.made().where(6), 1);
        due.answer("ALMOST, where(30)", Stage.ALMOST.made().where(30), 30);
        due.answer("LONGEST, where(0)", Stage.LONGEST.made().where(0), 0);
        due.answer("LONGEST, where(31)", Stage.LONGEST.made().where(31), 31);
    }

    private static void whereOfAnErasing() {
        due.sentence("Promise 13: it erases");
        due.keeps("where(5)", NONE, Stage.ERASED, x -> x.where(5));
        due.keeps("where(5)", NONE, Stage.ERASED_OFF, x -> x.where(5));
        due.keeps("where(30)", NONE, Stage.FILLED, x -> x.where(30));
        due.keeps("where(31)", NONE, Stage.FILLED, x -> x.where(31));
        due.keeps("where(31)", NONE, Stage.FILLED_OFF, x -> x.where(31));
        due.answer("ERASED, where(4) beside the erasing", Stage.ERASED.made().where(4), 2);
        due.answer("FILLED, where(28) beside the erasings", Stage.FILLED.made().where(28), 26);
    }

    private static void whereOfWhatIsNotShown() {
        due.sentence("Promise 13: or its character is not shown.");
        due.keeps("where(1) of a covered one", NONE, Stage.ERASED, x -> x.where(1));
        due.keeps("where(3) of a covered one", NONE, Stage.ERASED, x -> x.where(3));
        due.keeps("where(0) of one that is off", NONE, Stage.ERASED_OFF, x -> x.where(0));
        due.keeps("where(0) of a covered one", NONE, Stage.FILLED, x -> x.where(0));
        due.keeps("where(7) of one that is off", NONE, Stage.FILLED, x -> x.where(7));
        due.keeps("where(29) of a covered one", NONE, Stage.FILLED, x -> x.where(29));
        due.answer("FILLED, where(1)", Stage.FILLED.made().where(1), 0);
        due.answer("FILLED, where(6)", Stage.FILLED.made().where(6), 5);
        due.answer("FILLED, where(8)", Stage.FILLED.made().where(8), 6);
        SelectiveUndo x = Stage.ERASED.made();
        x.put(5, 0);
        due.answer("where(1) with the erasing off", x.where(1), 2);
        x.put(1, 0);
        due.answer("where(1) when it is off itself", x.where(1), NONE);
        x.put(5, 1);
        due.answer("where(1) when it is off and covered", x.where(1), NONE);
    }

    private static void coversFrom1To31() {
        due.sentence("Promise 14: How many characters change k covers");
        for (int count = 1; count <= 31; count++) {
            SelectiveUndo x = Stage.ALMOST.made();
            x.erase(31 - count, 31);
            due.answer("covers(31) of " + count, x.covers(31), count);
            x.flip(0, 31);
            due.answer("covers(31) of " + count + " with all off", x.covers(31), count);
        }
    }

    private static void coversOfATyping() {
        due.sentence("Promise 14: 0 if it types");
        due.keeps("covers(0)", 0, Stage.ERASED, x -> x.covers(0));
        due.keeps("covers(1)", 0, Stage.ERASED, x -> x.covers(1));
        due.keeps("covers(5)", 3, Stage.ERASED, x -> x.covers(5));
        due.keeps("covers(6)", 0, Stage.ERASED, x -> x.covers(6));
        due.keeps("covers(6)", 0, Stage.ERASED_OFF, x -> x.covers(6));
        due.keeps("covers(29)", 0, Stage.FILLED, x -> x.covers(29));
        due.keeps("covers(30)", 1, Stage.FILLED, x -> x.covers(30));
        due.keeps("covers(31)", 1, Stage.FILLED_OFF, x -> x.covers(31));
        due.keeps("covers(31)", 0, Stage.LONGEST, x -> x.covers(31));
    }

    private static void coversOfWhatIsNoChange() {
        due.sentence("Promise 14: BAD_ARG if there is no change k.");
        for (Stage stage : Stage.values()) {
            for (int k : stage.noChange()) {
                due.keeps("covers(" + k + ")", BAD_ARG, stage, x -> x.covers(k));
            }
        }
        due.answer("WORD, covers(4)", Stage.WORD.made().covers(4), 0);
        due.answer("LONGEST, covers(0)", Stage.LONGEST.made().covers(0), 0);
        due.answer("FILLED, covers(31)", Stage.FILLED.made().covers(31), 1);
    }

    private static void coveredByFrom0To31() {
        due.sentence("Promise 15: How many changes that are on cover the character that change k typed");
        SelectiveUndo x = new SelectiveUndo();
        x.type(0, 7);
        for (int k = 1; k <= 31; k++) {
            due.answer("erase(0, 1) as change " + k, x.erase(0, 1), k);
            due.answer("coveredBy(0) by change " + k + " alone", x.coveredBy(0), 1);
            x.put(k, 0);
            due.answer("coveredBy(0) with all off", x.coveredBy(0), 0);
        }
        due.answer("flip(1, 31)", x.flip(1, 31), 31);
        due.answer("coveredBy(0) by all", x.coveredBy(0), 31);
        for (int on = 30; on >= 0; on--) {
            x.undo();
            due.answer("coveredBy(0) by " + on, x.coveredBy(0), on);
        }
        due.text("no change that is on covers it", x, "h");
    }

    private static void coveredByOfWhatIsNoChange() {
        due.sentence("Promise 15: BAD_ARG if there is no change k");
        for (Stage stage : Stage.values()) {
            for (int k : stage.noChange()) {
                due.keeps("coveredBy(" + k + ")", BAD_ARG, stage, x -> x.coveredBy(k));
            }
        }
        due.answer("WORD, coveredBy(0)", Stage.WORD.made().coveredBy(0), 0);
        due.answer("WORD, coveredBy(4)", Stage.WORD.made().coveredBy(4), 0);
        due.answer("LONGEST, coveredBy(31)", Stage.LONGEST.made().coveredBy(31), 0);
    }

    private static void coveredByOfAnErasing() {
        due.sentence("Promise 15: NONE if it erases.");
        due.keeps("coveredBy(5)", NONE, Stage.ERASED, x -> x.coveredBy(5));
        due.keeps("coveredBy(5)", NONE, Stage.ERASED_OFF, x -> x.coveredBy(5));
        due.keeps("coveredBy(30)", NONE, Stage.FILLED, x -> x.coveredBy(30));
        due.keeps("coveredBy(31)", NONE, Stage.FILLED, x -> x.coveredBy(31));
        due.keeps("coveredBy(31)", NONE, Stage.FILLED_OFF, x -> x.coveredBy(31));
        due.answer("ERASED, coveredBy(4)", Stage.ERASED.made().coveredBy(4), 0);
        due.answer("ERASED, coveredBy(6)", Stage.ERASED.made().coveredBy(6), 0);
        due.answer("FILLED, coveredBy(29)", Stage.FILLED.made().coveredBy(29), 1);
    }

    /*
     * No k fits both codes, as a change that there is not does not erase either. What a run can show is
     * that each number without a change answers BAD_ARG where the changes next to it are erasings.
     */
    private static void coveredByTestsBadArgFirst() {
        due.sentence("Promise 18: coveredBy: BAD_ARG is tested before NONE.");
        SelectiveUndo x = Stage.WORD.made();
        x.erase(0, 1);
        due.answer("coveredBy(5), the last change, an erasing", x.coveredBy(5), NONE);
        for (int k : Stage.outside(6)) {
            due.answer("coveredBy(" + k + ") behind an erasing", x.coveredBy(k), BAD_ARG);
        }
        due.keeps("coveredBy(31)", NONE, Stage.FILLED, y -> y.coveredBy(31));
        due.keeps("coveredBy(32)", BAD_ARG, Stage.FILLED, y -> y.coveredBy(32));
        due.keeps("coveredBy(0)", BAD_ARG, Stage.NEW, y -> y.coveredBy(0));
        due.keeps("coveredBy(-4)", BAD_ARG, Stage.FILLED, y -> y.coveredBy(NONE));
    }

    private static void effectOfTurningAChange() {
        due.sentence("Promise 16: By how much the text would be longer (or, if negative, shorter) "
                + "if change k were put off, if it is on, or on, if it is off");
        for (Stage stage : Stage.values()) {
            for (int change = 0; change < stage.changes; change++) {
                int k = change;
                SelectiveUndo turned = stage.made();
                turned.flip(k, k);
                due.keeps("effect(" + k + ")", turned.length() - stage.length, stage, x -> x.effect(k));
            }
        }
        SelectiveUndo x = Stage.ALMOST.made();
        x.erase(0, 31);
        due.answer("effect(31), the longest growth", x.effect(31), 31);
        due.answer("effect(0) of a covered one", x.effect(0), 0);
        x.put(31, 0);
        due.answer("effect(31), the longest loss", x.effect(31), -31);
        due.answer("effect(0) of a shown one", x.effect(0), -1);
        x.put(0, 0);
        due.answer("effect(0) of one that is off", x.effect(0), 1);
    }

    private static void effectOfWhatIsNoChange() {
        due.sentence("Promise 16: 0 if there is no change k.");
        for (Stage stage : Stage.values()) {
            for (int k : stage.noChange()) {
                due.keeps("effect(" + k + ")", 0, stage, x -> x.effect(k));
            }
        }
        due.answer("WORD, effect(0)", Stage.WORD.made().effect(0), -1);
        due.answer("WORD, effect(4)", Stage.WORD.made().effect(4), -1);
        due.answer("ERASED_OFF, effect(0)", Stage.ERASED_OFF.made().effect(0), 1);
        due.answer("LONGEST, effect(31)", Stage.LONGEST.made().effect(31), -1);
        due.answer("FILLED, effect(31)", Stage.FILLED.made().effect(31), 1);
    }

    private static void digestFromNothingToTheGreatest() {
        due.sentence("Promise 17: The sum over the places p of the text of (p + 1) times (letter + 1).");
        due.keeps("digest() of nothing", 0, Stage.NEW, SelectiveUndo::digest);
        due.keeps("digest() with all off", 0, Stage.ERASED_OFF, SelectiveUndo::digest);
        due.keeps("digest() with all 32 off", 0, Stage.FILLED_OFF, SelectiveUndo::digest);
        due.keeps("digest() of aje", 36, Stage.ERASED, SelectiveUndo::digest);
        SelectiveUndo least = new SelectiveUndo();
        least.type(0, 0);
        due.answer("digest() of a, the least of a text", least.digest(), 1);
        least.erase(0, 1);
        due.answer("digest() with a erased", least.digest(), 0);
        SelectiveUndo greatest = new SelectiveUndo();
        for (int n = 0; n < 32; n++) {
            greatest.type(0, 25);
        }
        due.answer("digest() of 32 times z, the greatest", greatest.digest(), 13728);
    }
}
