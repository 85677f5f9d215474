import java.util.ArrayList;
import java.util.List;

/** The sentences of the document that name no boundary, each quoted and tested in every state of a small object. */
public final class SentenceTest {
    private static final int NONE = SelectiveUndo.NONE;
    /** The list of Stage.ERASED, the change that typed each of its characters, and the characters that 5 covers. */
    private static final String LIST = "ajbcde";
    private static final int[] TYPED_BY = {0, 6, 1, 2, 3, 4};
    private static final int ERASING = 5;
    private static final String COVERED = "bcd";
    private static final int CHANGES = 7;
    private static final int ALL_ON = (1 << CHANGES) - 1;

    private static final Due due = new Due();

    public static void main(String[] args) {
        changesGoAndComeInAnyOrder();
        changesGoAndComeAtAnyLaterTime();
        charactersStayInAFixedOrder();
        theTextIsWhatIsShown();
        aTypedCharacterKeepsItsLetter();
        typingMakesAChange();
        erasingMakesAChange();
        undoAnswersTheNumber();
        redoAnswersTheNumber();
        isOnTells();
        whereTellsThePlace();
        due.end();
    }

    /** Each bit of the mask says whether the change of that number is on. */
    private static boolean on(int mask, int k) {
        return (mask >> k & 1) == 1;
    }

    private static SelectiveUndo switched(int mask) {
        SelectiveUndo x = Stage.ERASED.made();
        for (int k = 0; k < CHANGES; k++) {
            x.put(k, on(mask, k) ? 1 : 0);
        }
        return x;
    }

    /** What is shown of the list, told by the mask alone. */
    private static String shown(int mask) {
        StringBuilder text = new StringBuilder();
        for (int n = 0; n < LIST.length(); n++) {
            boolean covered = on(mask, ERASING) && COVERED.indexOf(LIST.charAt(n)) >= 0;
            if (on(mask, TYPED_BY[n]) && !covered) {
                text.append(LIST.charAt(n));
            }
        }
        return text.toString();
    }

    private static String textOf(SelectiveUndo x) {
        StringBuilder text = new StringBuilder();
        for (int p = 0; p < x.length(); p++) {
            text.append((char) ('a' + x.letter(p)));
        }
        return text.toString();
    }

    private static void changesGoAndComeInAnyOrder() {
        due.sentence("A text whose every change can be taken back, and brought back, at any later time "
                + "and in any order");
        forEachOrder(ALL_ON, new ArrayList<>());
    }

    private static void forEachOrder(int left, List<Integer> order) {
        if (left == 0) {
            takeBackAndBringBack(order);
        }
        for (int k = 0; k < CHANGES; k++) {
            if (on(left, k)) {
                order.add(k);
                forEachOrder(left & ~(1 << k), order);
                order.remove(order.size() - 1);
            }
        }
    }

    private static void takeBackAndBringBack(List<Integer> order) {
        SelectiveUndo x = Stage.ERASED.made();
        int mask = ALL_ON;
        for (int k : order) {
            mask &= ~(1 << k);
            due.answer("in the order " + order + ", put(" + k + ", 0)", x.put(k, 0), 1);
            due.text("in the order " + order + ", " + k + " taken back", x, shown(mask));
        }
        for (int k : order) {
            mask |= 1 << k;
            due.answer("in the order " + order + ", flip(" + k + ", " + k + ")", x.flip(k, k), 1);
            due.text("in the order " + order + ", " + k + " brought back", x, shown(mask));
        }
    }

    private static void changesGoAndComeAtAnyLaterTime() {
        due.sentence("at any later time and in any order, whatever was changed since");
        for (int k = 0; k < CHANGES; k++) {
            SelectiveUndo x = Stage.ERASED.made();
            goesAndComes("before anything else", x, k);
            x.type(0, 25);
            goesAndComes("behind a typing at the begin", x, k);
            x.type(x.length(), 24);
            goesAndComes("behind a typing at the end", x, k);
            x.erase(0, 2);
            goesAndComes("behind an erasing of the begin", x, k);
            x.undo();
            goesAndComes("behind an undo", x, k);
            x.erase(0, x.length());
            goesAndComes("behind an erasing of all", x, k);
            x.flip(5, 9);
            goesAndComes("behind a flip", x, k);
            x.redo();
            goesAndComes("behind a redo", x, k);
        }
    }

    private static void goesAndComes(String when, SelectiveUndo x, int k) {
        String what = "change " + k + " " + when;
        String before = textOf(x);
        int wasOn = x.isOn(k) ? 1 : 0;
        int length = before.length() + x.effect(k);
        due.answer(what + ", turned", x.flip(k, k), 1 - wasOn);
        due.answer(what + ", turned: length()", x.length(), length);
        due.answer(what + ", turned back", x.put(k, wasOn), 1 - wasOn);
        due.text(what + ", turned back", x, before);
    }

    private static void charactersStayInAFixedOrder() {
        due.sentence("Every character that was ever typed stays in a LIST, in a fixed order");
        int allTypings = ALL_ON & ~(1 << ERASING);
        for (int mask = 0; mask <= ALL_ON; mask++) {
            SelectiveUndo x = switched(mask);
            x.flip(0, CHANGES - 1);
            for (int k = 0; k < CHANGES; k++) {
                x.put(k, on(allTypings, k) ? 1 : 0);
            }
            due.text("all typings on behind the mask " + mask, x, LIST);
            for (int p = 0; p < LIST.length(); p++) {
                due.answer("then origin(" + p + ")", x.origin(p), TYPED_BY[p]);
            }
        }
    }

    private static void theTextIsWhatIsShown() {
        due.sentence("The TEXT is the list of the characters shown, in the order of the list");
        for (int mask = 0; mask <= ALL_ON; mask++) {
            due.text("with the mask " + mask, switched(mask), shown(mask));
        }
    }

    private static void aTypedCharacterKeepsItsLetter() {
        due.sentence("a new character with the letter c comes into the list");
        for (int c = 0; c <= 25; c++) {
            SelectiveUndo x = Stage.ERASED.made();
            x.type(2, c);
            String typed = "aj" + (char) ('a' + c) + "e";
            due.text("type(2, " + c + ")", x, typed);
            x.flip(0, CHANGES);
            due.text("type(2, " + c + ") with all off", x, "");
            x.flip(0, CHANGES);
            due.text("type(2, " + c + ") with all on again", x, typed);
        }
    }

    private static void typingMakesAChange() {
        due.sentence("Promise 2: Makes the change typing c at p.");
        for (int mask = 0; mask <= ALL_ON; mask++) {
            String before = shown(mask);
            for (int p = 0; p <= before.length(); p++) {
                String when = "mask " + mask + ", type(" + p + ", 25)";
                SelectiveUndo x = switched(mask);
                due.answer(when, x.type(p, 25), CHANGES);
                due.text(when, x, before.substring(0, p) + "z" + before.substring(p));
                due.answer(when + ", origin(" + p + ")", x.origin(p), CHANGES);
                due.answer(when + ", covers", x.covers(CHANGES), 0);
                due.answer(when + ", coveredBy", x.coveredBy(CHANGES), 0);
                madeOneChangeMore(when, x, mask);
            }
        }
    }

    private static void erasingMakesAChange() {
        due.sentence("Promise 3: Makes the change erasing i to j.");
        for (int mask = 0; mask <= ALL_ON; mask++) {
            String before = shown(mask);
            for (int i = 0; i < before.length(); i++) {
                for (int j = i + 1; j <= before.length(); j++) {
                    String when = "mask " + mask + ", erase(" + i + ", " + j + ")";
                    SelectiveUndo x = switched(mask);
                    due.answer(when, x.erase(i, j), CHANGES);
                    due.text(when, x, before.substring(0, i) + before.substring(j));
                    due.answer(when + ", covers", x.covers(CHANGES), j - i);
                    due.answer(when + ", coveredBy", x.coveredBy(CHANGES), NONE);
                    madeOneChangeMore(when, x, mask);
                }
            }
        }
    }

    private static void madeOneChangeMore(String when, SelectiveUndo x, int mask) {
        due.answer(when + ", changes()", x.changes(), CHANGES + 1);
        sameSwitches(when, x, mask | 1 << CHANGES);
        x.put(CHANGES, 0);
        due.text(when + " put off", x, shown(mask));
    }

    private static void sameSwitches(String when, SelectiveUndo x, int mask) {
        for (int k = 0; k <= CHANGES; k++) {
            due.answer(when + ", isOn(" + k + ")", x.isOn(k), on(mask, k));
        }
    }

    private static void undoAnswersTheNumber() {
        due.sentence("Promise 5: Otherwise its number.");
        for (int mask = 1; mask <= ALL_ON; mask++) {
            SelectiveUndo x = switched(mask);
            int highest = Integer.highestOneBit(mask);
            due.answer("mask " + mask + ", undo()", x.undo(), Integer.numberOfTrailingZeros(highest));
            sameSwitches("mask " + mask + ", undo()", x, mask & ~highest);
            due.text("mask " + mask + ", undo()", x, shown(mask & ~highest));
        }
    }

    private static void redoAnswersTheNumber() {
        due.sentence("Promise 6: Otherwise its number.");
        for (int mask = 0; mask < ALL_ON; mask++) {
            SelectiveUndo x = switched(mask);
            int lowest = Integer.lowestOneBit(~mask);
            due.answer("mask " + mask + ", redo()", x.redo(), Integer.numberOfTrailingZeros(lowest));
            sameSwitches("mask " + mask + ", redo()", x, mask | lowest);
            due.text("mask " + mask + ", redo()", x, shown(mask | lowest));
        }
    }

    private static void isOnTells() {
        due.sentence("Promise 9: Whether change k is on");
        for (int mask = 0; mask <= ALL_ON; mask++) {
            sameSwitches("mask " + mask, switched(mask), mask);
        }
    }

    private static void whereTellsThePlace() {
        due.sentence("Promise 13: The place in the text of the character that change k typed");
        for (int mask = 0; mask <= ALL_ON; mask++) {
            SelectiveUndo x = switched(mask);
            String text = shown(mask);
            for (int n = 0; n < LIST.length(); n++) {
                int place = text.indexOf(LIST.charAt(n));
                int k = TYPED_BY[n];
                due.answer("mask " + mask + ", where(" + k + ")", x.where(k), place < 0 ? NONE : place);
            }
        }
    }
}
