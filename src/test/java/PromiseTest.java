/** Each promise of the document: ordinary inputs, the edges that it names, and wrong inputs. */
public final class PromiseTest {
    private static final int BAD_ARG = SelectiveUndo.BAD_ARG;
    private static final int FULL = SelectiveUndo.FULL;
    private static final int NONE = SelectiveUndo.NONE;
    private static final int LEAST = Stage.LEAST;
    private static final int GREATEST = Stage.GREATEST;

    private static final Due due = new Due();
    private static final Stage NEW = Stage.NEW;
    private static final Stage WORD = Stage.WORD;
    private static final Stage ERASED = Stage.ERASED;
    private static final Stage FILLED = Stage.FILLED;

    public static void main(String[] args) {
        newObject();
        typeAnswersAndPlaces();
        typeBehindWhatStoodThere();
        typeRefuses();
        eraseAnswersAndCovers();
        eraseRefuses();
        putSwitches();
        undoTakesTheHighest();
        redoTakesTheLowest();
        flipTurnsARange();
        flipRefuses();
        changesCounts();
        isOnTells();
        lengthCounts();
        letterTells();
        originTells();
        whereTells();
        coversCounts();
        coveredByCounts();
        coveredByRefuses();
        effectForetells();
        effectOfCovers();
        digestSums();
        atTheLimit();
        questionsChangeNothing();
        objectsAreApart();
        due.end();
    }

    // Promise 1
    private static void newObject() {
        SelectiveUndo x = new SelectiveUndo();
        due.answer("new: changes()", x.changes(), 0);
        due.answer("new: length()", x.length(), 0);
        due.answer("new: digest()", x.digest(), 0);
        due.answer("new: letter(0)", x.letter(0), NONE);
        due.answer("new: origin(0)", x.origin(0), NONE);
        due.answer("new: where(0)", x.where(0), NONE);
        due.answer("new: isOn(0)", x.isOn(0), false);
        due.answer("new: covers(0)", x.covers(0), BAD_ARG);
        due.answer("new: coveredBy(0)", x.coveredBy(0), BAD_ARG);
        due.answer("new: effect(0)", x.effect(0), 0);
        due.answer("new: undo()", x.undo(), NONE);
        due.answer("new: redo()", x.redo(), NONE);
    }

    // Promise 2
    private static void typeAnswersAndPlaces() {
        SelectiveUndo x = new SelectiveUndo();
        due.answer("type(0, 0)", x.type(0, 0), 0);
        due.answer("type(1, 25) at the end", x.type(1, 25), 1);
        due.answer("type(0, 1) at the begin", x.type(0, 1), 2);
        due.answer("type(2, 2) between", x.type(2, 2), 3);
        due.text("after four typings", x, "bacz");
        due.answer("a typing is on when it is made", x.isOn(3), true);
        x.erase(0, 1);
        due.answer("type's number behind an erasing", x.type(0, 4), 5);
    }

    // Promise 2 and the terms: the list's order is fixed, also for what is not shown
    private static void typeBehindWhatStoodThere() {
        SelectiveUndo x = ERASED.made();
        due.text("bcd erased, j typed", x, "aje");
        x.put(5, 0);
        due.text("j stands directly behind a, before what was hidden", x, "ajbcde");

        SelectiveUndo y = WORD.made();
        y.erase(0, 5);
        y.type(0, 23);
        y.type(1, 24);
        y.put(5, 0);
        due.text("place 0 is the very begin of the list", y, "xyabcde");

        SelectiveUndo z = WORD.made();
        z.put(4, 0);
        z.type(4, 25);
        z.put(4, 1);
        due.text("the end of the text is not the end of the list", z, "abcdze");

        SelectiveUndo w = WORD.made();
        w.put(2, 0);
        w.type(2, 25);
        w.put(1, 0);
        due.text("a character stays when the one before it goes", w, "azde");
        w.flip(1, 2);
        due.text("and when both come back", w, "abzcde");
    }

    // Promise 2
    private static void typeRefuses() {
        int[] wrongLetters = {-1, 26, LEAST, GREATEST};
        for (int c : wrongLetters) {
            due.keeps("type(0, " + c + ")", BAD_ARG, WORD, x -> x.type(0, c));
            due.keeps("type(0, " + c + ") when full", BAD_ARG, FILLED, x -> x.type(0, c));
        }
        int[] wrongPlaces = {-1, 6, LEAST, GREATEST};
        for (int p : wrongPlaces) {
            due.keeps("type(" + p + ", 0)", BAD_ARG, WORD, x -> x.type(p, 0));
        }
        due.keeps("type(1, 0) into nothing", BAD_ARG, NEW, x -> x.type(1, 0));
        due.keeps("type(4, 0) with a hidden rest", BAD_ARG, ERASED, x -> x.type(4, 0));
        due.keeps("type(-1, 0) when full", BAD_ARG, FILLED, x -> x.type(-1, 0));
        due.keeps("type(28, 0) when full", BAD_ARG, FILLED, x -> x.type(28, 0));
        due.keeps("type(27, 0) when full", FULL, FILLED, x -> x.type(27, 0));
        due.keeps("type(0, 25) when full", FULL, FILLED, x -> x.type(0, 25));
    }

    // Promise 3
    private static void eraseAnswersAndCovers() {
        SelectiveUndo x = WORD.made();
        due.answer("erase(1, 3)", x.erase(1, 3), 5);
        due.text("bc erased", x, "ade");
        due.answer("an erasing is on when it is made", x.isOn(5), true);
        due.answer("erase(1, 2)", x.erase(1, 2), 6);
        due.text("d erased too", x, "ae");
        due.answer("covers(6) has only what was shown", x.covers(6), 1);
        x.put(5, 0);
        due.text("bc back", x, "abce");
        due.answer("erase(0, 4) of all", x.erase(0, 4), 7);
        due.text("all erased", x, "");
        x.type(0, 25);
        due.text("typed later, not covered", x, "z");
        x.put(7, 0);
        x.put(6, 0);
        due.text("all back", x, "zabcde");

        SelectiveUndo y = WORD.made();
        y.erase(1, 4);
        y.put(5, 0);
        y.type(2, 25);
        y.put(5, 1);
        due.text("an erasing covers characters, not places", y, "aze");
    }

    // Promise 3
    private static void eraseRefuses() {
        int[][] wrong = {{-1, 1}, {-1, -1}, {0, 0}, {3, 3}, {3, 2}, {0, 6}, {5, 6}, {4, 7}, {5, 5}, {0, -1},
            {LEAST, 1}, {LEAST, GREATEST}, {0, GREATEST}, {GREATEST, LEAST}, {GREATEST, GREATEST}, {0, LEAST}};
        for (int[] range : wrong) {
            String call = "erase(" + range[0] + ", " + range[1] + ")";
            due.keeps(call, BAD_ARG, WORD, x -> x.erase(range[0], range[1]));
        }
        due.keeps("erase(0, 1) of nothing", BAD_ARG, NEW, x -> x.erase(0, 1));
        due.keeps("erase(0, 4) with a hidden rest", BAD_ARG, ERASED, x -> x.erase(0, 4));
        due.keeps("erase(-1, 1) when full", BAD_ARG, FILLED, x -> x.erase(-1, 1));
        due.keeps("erase(1, 1) when full", BAD_ARG, FILLED, x -> x.erase(1, 1));
        due.keeps("erase(0, 28) when full", BAD_ARG, FILLED, x -> x.erase(0, 28));
        due.keeps("erase(0, 27) when full", FULL, FILLED, x -> x.erase(0, 27));
        due.keeps("erase(0, 1) when full", FULL, FILLED, x -> x.erase(0, 1));
    }

    // Promise 4
    private static void putSwitches() {
        SelectiveUndo x = ERASED.made();
        due.answer("put(0, 0) when on", x.put(0, 0), 1);
        due.text("a off", x, "je");
        due.answer("put(0, 0) when off", x.put(0, 0), 0);
        due.text("a still off", x, "je");
        due.answer("put(0, 1) when off", x.put(0, 1), 0);
        due.text("a on", x, "aje");
        due.answer("put(0, 1) when on", x.put(0, 1), 1);
        due.text("a still on", x, "aje");
        due.answer("put(5, 0), the erasing", x.put(5, 0), 1);
        due.text("the erasing off", x, "ajbcde");
        int[] onToo = {-1, 2, LEAST, GREATEST};
        for (int on : onToo) {
            x.put(5, 0);
            due.answer("put(5, " + on + ")", x.put(5, on), 0);
            due.answer("isOn(5) then", x.isOn(5), true);
        }
        int[] noChange = {-1, 7, 31, 32, LEAST, GREATEST};
        for (int k : noChange) {
            due.keeps("put(" + k + ", 0)", BAD_ARG, ERASED, y -> y.put(k, 0));
            due.keeps("put(" + k + ", 1)", BAD_ARG, ERASED, y -> y.put(k, 1));
        }
        due.keeps("put(32, 0) when full", BAD_ARG, FILLED, y -> y.put(32, 0));
    }

    // Promise 5
    private static void undoTakesTheHighest() {
        SelectiveUndo x = ERASED.made();
        x.put(6, 0);
        due.answer("undo() of the erasing", x.undo(), 5);
        due.text("the erasing undone", x, "abcde");
        x.put(3, 0);
        due.answer("undo() of e", x.undo(), 4);
        due.answer("undo() goes past what is off", x.undo(), 2);
        due.text("three undone", x, "ab");
        due.answer("undo() of b", x.undo(), 1);
        due.answer("undo() of a, change 0", x.undo(), 0);
        due.answer("undo() of nothing", x.undo(), NONE);
        due.answer("changes() stays", x.changes(), 7);
        x.put(6, 1);
        due.answer("undo() of what came back", x.undo(), 6);
        due.keeps("undo() of nothing", NONE, Stage.ERASED_OFF, SelectiveUndo::undo);
    }

    // Promise 6
    private static void redoTakesTheLowest() {
        SelectiveUndo x = ERASED.made();
        due.answer("redo() with all on", x.redo(), NONE);
        x.put(6, 0);
        x.put(5, 0);
        x.put(2, 0);
        x.put(0, 0);
        due.answer("redo() of a, change 0", x.redo(), 0);
        due.text("a redone", x, "abde");
        due.answer("redo() goes past what is on", x.redo(), 2);
        due.answer("redo() of the erasing", x.redo(), 5);
        due.text("the erasing redone", x, "ae");
        due.answer("redo() of j", x.redo(), 6);
        due.text("all redone", x, "aje");
        due.answer("redo() with all on again", x.redo(), NONE);
        due.keeps("redo() with all on", NONE, ERASED, SelectiveUndo::redo);
    }

    // Promise 7
    private static void flipTurnsARange() {
        SelectiveUndo x = WORD.made();
        due.answer("flip(1, 3) of what is on", x.flip(1, 3), 0);
        due.text("bcd off", x, "ae");
        due.answer("flip(3, 4) of both kinds", x.flip(3, 4), 1);
        due.text("d on, e off", x, "ad");
        due.answer("flip(2, 2) of one alone", x.flip(2, 2), 1);
        due.text("c on", x, "acd");
        due.answer("flip(0, 4) of all", x.flip(0, 4), 2);
        due.text("all turned", x, "be");
        due.answer("flip(0, 0)", x.flip(0, 0), 1);
        due.text("a on", x, "abe");
        SelectiveUndo y = ERASED.made();
        due.answer("flip(4, 6) with an erasing", y.flip(4, 6), 0);
        due.text("e, the erasing and j off", y, "abcd");
    }

    // Promise 7
    private static void flipRefuses() {
        int[][] wrong = {{-1, 2}, {-1, -1}, {1, 0}, {6, 5}, {0, 7}, {7, 7}, {6, 7}, {7, 6}, {0, 31}, {0, 32},
            {LEAST, 0}, {LEAST, GREATEST}, {0, GREATEST}, {GREATEST, GREATEST}, {0, LEAST}, {GREATEST, 0}};
        for (int[] range : wrong) {
            String call = "flip(" + range[0] + ", " + range[1] + ")";
            due.keeps(call, BAD_ARG, ERASED, x -> x.flip(range[0], range[1]));
        }
        due.keeps("flip(0, 0) of nothing", BAD_ARG, NEW, x -> x.flip(0, 0));
        due.keeps("flip(0, 32) when full", BAD_ARG, FILLED, x -> x.flip(0, 32));
    }

    // Promise 8
    private static void changesCounts() {
        SelectiveUndo x = ERASED.made();
        due.answer("changes() counts typings and erasings", x.changes(), 7);
        x.undo();
        x.flip(0, 6);
        due.answer("changes() counts what is off", x.changes(), 7);
        x.type(9, 9);
        due.answer("changes() does not count what was refused", x.changes(), 7);
    }

    // Promise 9
    private static void isOnTells() {
        SelectiveUndo x = ERASED.made();
        due.answer("isOn(0)", x.isOn(0), true);
        due.answer("isOn(1) of a covered character's typing", x.isOn(1), true);
        due.answer("isOn(6)", x.isOn(6), true);
        x.put(6, 0);
        due.answer("isOn(6) when off", x.isOn(6), false);
        int[] noChange = {-1, 7, 31, 32, LEAST, GREATEST};
        for (int k : noChange) {
            due.answer("isOn(" + k + ")", x.isOn(k), false);
        }
    }

    // Promise 10
    private static void lengthCounts() {
        SelectiveUndo x = ERASED.made();
        due.answer("length()", x.length(), 3);
        x.put(1, 0);
        due.answer("length() with a covered one off", x.length(), 3);
        x.put(5, 0);
        due.answer("length() without the covered one", x.length(), 5);
        x.put(1, 1);
        due.answer("length() of all", x.length(), 6);
        due.answer("length() of the filled one", FILLED.made().length(), 27);
    }

    // Promise 11
    private static void letterTells() {
        SelectiveUndo x = ERASED.made();
        due.answer("letter(0)", x.letter(0), 0);
        due.answer("letter(1)", x.letter(1), 9);
        due.answer("letter(2)", x.letter(2), 4);
        int[] noPlace = {-1, -4, 3, 6, 48, LEAST, GREATEST};
        for (int p : noPlace) {
            due.answer("letter(" + p + ")", x.letter(p), NONE);
        }
    }

    // Promise 12
    private static void originTells() {
        SelectiveUndo x = ERASED.made();
        due.answer("origin(0)", x.origin(0), 0);
        due.answer("origin(1)", x.origin(1), 6);
        due.answer("origin(2)", x.origin(2), 4);
        int[] noPlace = {-1, -4, 3, 6, 48, LEAST, GREATEST};
        for (int p : noPlace) {
            due.answer("origin(" + p + ")", x.origin(p), NONE);
        }
        x.put(5, 0);
        due.answer("origin(2) with the erasing off", x.origin(2), 1);
    }

    // Promise 13
    private static void whereTells() {
        SelectiveUndo x = ERASED.made();
        due.answer("where(0)", x.where(0), 0);
        due.answer("where(6)", x.where(6), 1);
        due.answer("where(4)", x.where(4), 2);
        due.answer("where(2) of a covered one", x.where(2), NONE);
        due.answer("where(5) of an erasing", x.where(5), NONE);
        x.put(4, 0);
        due.answer("where(4) when off", x.where(4), NONE);
        int[] noChange = {-1, 7, 31, 32, 48, LEAST, GREATEST};
        for (int k : noChange) {
            due.answer("where(" + k + ")", x.where(k), NONE);
        }
        x.put(5, 0);
        due.answer("where(2) with the erasing off", x.where(2), 3);
        due.answer("where(5) of an erasing that is off", x.where(5), NONE);
    }

    // Promise 14
    private static void coversCounts() {
        SelectiveUndo x = ERASED.made();
        due.answer("covers(5)", x.covers(5), 3);
        due.answer("covers(0) of a typing", x.covers(0), 0);
        due.answer("covers(6) of a typing", x.covers(6), 0);
        x.put(5, 0);
        due.answer("covers(5) when off", x.covers(5), 3);
        x.put(2, 0);
        due.answer("covers(5) with one of them off", x.covers(5), 3);
        x.erase(0, 5);
        due.answer("covers(7)", x.covers(7), 5);
        int[] noChange = {-1, 8, 31, 32, LEAST, GREATEST};
        for (int k : noChange) {
            due.answer("covers(" + k + ")", x.covers(k), BAD_ARG);
        }
    }

    // Promise 15
    private static void coveredByCounts() {
        SelectiveUndo x = ERASED.made();
        due.answer("coveredBy(0)", x.coveredBy(0), 0);
        due.answer("coveredBy(2)", x.coveredBy(2), 1);
        x.put(5, 0);
        due.answer("coveredBy(2) with the erasing off", x.coveredBy(2), 0);
        x.erase(2, 4);
        x.put(5, 1);
        due.answer("coveredBy(1) by two", x.coveredBy(1), 2);
        due.answer("coveredBy(2) by two", x.coveredBy(2), 2);
        due.answer("coveredBy(3) by one of them", x.coveredBy(3), 1);
        x.put(2, 0);
        due.answer("coveredBy(2) when itself off", x.coveredBy(2), 2);
    }

    // Promises 15 and 18: a number without a change is BAD_ARG, also next to an erasing
    private static void coveredByRefuses() {
        SelectiveUndo x = WORD.made();
        x.erase(1, 4);
        due.answer("coveredBy(5) of an erasing", x.coveredBy(5), NONE);
        x.put(5, 0);
        due.answer("coveredBy(5) of an erasing that is off", x.coveredBy(5), NONE);
        int[] noChange = {-1, 6, 31, 32, LEAST, GREATEST};
        for (int k : noChange) {
            due.answer("coveredBy(" + k + ")", x.coveredBy(k), BAD_ARG);
        }
        SelectiveUndo y = FILLED.made();
        due.answer("coveredBy(31) when full", y.coveredBy(31), NONE);
        due.answer("coveredBy(32) when full", y.coveredBy(32), BAD_ARG);
        due.answer("coveredBy(-1) when full", y.coveredBy(-1), BAD_ARG);
    }

    // Promise 16
    private static void effectForetells() {
        SelectiveUndo x = ERASED.made();
        due.answer("effect(0) of a shown one", x.effect(0), -1);
        due.answer("effect(1) of a covered one", x.effect(1), 0);
        x.put(0, 0);
        due.answer("effect(0) of one that is off", x.effect(0), 1);
        x.put(1, 0);
        due.answer("effect(1) of a covered one that is off", x.effect(1), 0);
        int[] noChange = {-1, 7, 31, 32, LEAST, GREATEST};
        for (int k : noChange) {
            due.answer("effect(" + k + ")", x.effect(k), 0);
        }
    }

    // Promise 16
    private static void effectOfCovers() {
        SelectiveUndo x = ERASED.made();
        due.answer("effect(5) of an erasing", x.effect(5), 3);
        x.put(2, 0);
        due.answer("effect(5) with one of them off", x.effect(5), 2);
        x.put(5, 0);
        due.answer("effect(5) of an erasing that is off", x.effect(5), -2);
        x.erase(0, 3);
        due.answer("effect(5) with one of them covered", x.effect(5), -1);
        due.answer("effect(7)", x.effect(7), 3);
        x.put(5, 1);
        due.answer("effect(7) with one of them covered twice", x.effect(7), 2);
        due.answer("effect(5) with one of them covered twice", x.effect(5), 1);
    }

    // Promise 17
    private static void digestSums() {
        SelectiveUndo x = ERASED.made();
        due.answer("digest() of aje", x.digest(), 1 + 2 * 10 + 3 * 5);
        x.put(0, 0);
        due.answer("digest() of je", x.digest(), 10 + 2 * 5);
        x.flip(0, 5);
        due.answer("digest() of aj", x.digest(), 1 + 2 * 10);
        x.flip(0, 6);
        due.answer("digest() of e", x.digest(), 5);
        x.undo();
        x.flip(1, 4);
        due.answer("digest() of nothing", x.digest(), 0);
        SelectiveUndo y = new SelectiveUndo();
        int sum = 0;
        for (int n = 0; n < 32; n++) {
            y.type(n, 25);
            sum += (n + 1) * 26;
        }
        due.answer("digest() of 32 times z", y.digest(), sum);
    }

    // The terms' limit: 32 changes go, and the last of them is switched and asked about as any other.
    // 48 characters can't be reached, as each takes one of the 32 changes.
    private static void atTheLimit() {
        SelectiveUndo x = new SelectiveUndo();
        for (int n = 0; n < 32; n++) {
            due.answer("type(0, 1) as change " + n, x.type(0, 1), n);
        }
        due.answer("type(0, 1) as change 32", x.type(0, 1), FULL);
        due.answer("erase(0, 32) as change 32", x.erase(0, 32), FULL);
        due.answer("where(31)", x.where(31), 0);
        due.answer("where(0)", x.where(0), 31);
        due.answer("undo()", x.undo(), 31);
        due.answer("type(0, 1) with one undone", x.type(0, 1), FULL);
        due.answer("erase(0, 1) with one undone", x.erase(0, 1), FULL);
        due.answer("redo()", x.redo(), 31);
        due.answer("flip(0, 31)", x.flip(0, 31), 0);
        due.answer("type(0, 1) with all off", x.type(0, 1), FULL);

        SelectiveUndo y = new SelectiveUndo();
        for (int n = 0; n < 31; n++) {
            y.type(0, n % 26);
        }
        due.answer("erase(0, 31) as change 31", y.erase(0, 31), 31);
        due.answer("covers(31)", y.covers(31), 31);
        due.answer("coveredBy(30)", y.coveredBy(30), 1);
        due.answer("effect(31)", y.effect(31), 31);
        due.answer("length()", y.length(), 0);
        due.answer("put(31, 0)", y.put(31, 0), 1);
        due.answer("length() then", y.length(), 31);
        due.answer("effect(31) then", y.effect(31), -31);
    }

    private static void questionsChangeNothing() {
        for (int number = -1; number <= 8; number++) {
            int k = number;
            SelectiveUndo x = ERASED.made();
            due.keeps("letter(" + k + ")", x.letter(k), ERASED, y -> y.letter(k));
            due.keeps("origin(" + k + ")", x.origin(k), ERASED, y -> y.origin(k));
            due.keeps("where(" + k + ")", x.where(k), ERASED, y -> y.where(k));
            due.keeps("covers(" + k + ")", x.covers(k), ERASED, y -> y.covers(k));
            due.keeps("coveredBy(" + k + ")", x.coveredBy(k), ERASED, y -> y.coveredBy(k));
            due.keeps("effect(" + k + ")", x.effect(k), ERASED, y -> y.effect(k));
            due.keeps("isOn(" + k + ")", x.isOn(k) ? 1 : 0, ERASED, y -> y.isOn(k) ? 1 : 0);
        }
        due.keeps("changes()", 7, ERASED, SelectiveUndo::changes);
        due.keeps("length()", 3, ERASED, SelectiveUndo::length);
        due.keeps("digest()", 36, ERASED, SelectiveUndo::digest);
    }

    private static void objectsAreApart() {
        SelectiveUndo x = WORD.made();
        SelectiveUndo y = ERASED.made();
        x.undo();
        due.text("the one", x, "abcd");
        due.text("the other", y, "aje");
    }
}
