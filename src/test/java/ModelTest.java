/** Many mixed runs of calls, each answer compared with the model's. */
public final class ModelTest {
    private static final int RUNS = 3000;
    private static final int CALLS_OF_AN_OBJECT = 512;
    private static final int[] EXTREMES = {Integer.MIN_VALUE, -100, -2, 31, 32, 33, 48, 64, 100, Integer.MAX_VALUE};

    private final Due due = new Due();
    private long state = 20261115L;

    public static void main(String[] args) {
        ModelTest test = new ModelTest();
        for (int run = 0; run < RUNS; run++) {
            test.compareOneRun(run);
        }
        test.due.end();
    }

    /** A fixed sequence, so that a fault seen once is seen each time. */
    private int next(int bound) {
        state = state * 6364136223846793005L + 1442695040888963407L;
        return (int) ((state >>> 33) % bound);
    }

    /** Mostly from one below 0 to one above the top, seldom far out. */
    private int near(int top) {
        if (next(40) == 0) {
            return EXTREMES[next(EXTREMES.length)];
        }
        return next(top + 3) - 1;
    }

    private void compareOneRun(int run) {
        SelectiveUndo x = new SelectiveUndo();
        Model model = new Model();
        int slowness = 1 + next(8);
        for (int call = 0; call < CALLS_OF_AN_OBJECT; call++) {
            String where = "run " + run + ", call " + call + ": ";
            if (next(slowness) == 0) {
                compareEdit(where, x, model);
            } else if (next(4) == 0) {
                compareSwitch(where, x, model);
            } else {
                compareQuestion(where, x, model);
            }
        }
    }

    private void compareEdit(String where, SelectiveUndo x, Model model) {
        if (next(3) > 0) {
            int p = near(model.length());
            int c = near(25);
            due.answer(where + "type(" + p + ", " + c + ")", x.type(p, c), model.type(p, c));
        } else {
            int i = near(model.length());
            int j = near(model.length());
            due.answer(where + "erase(" + i + ", " + j + ")", x.erase(i, j), model.erase(i, j));
        }
    }

    private void compareSwitch(String where, SelectiveUndo x, Model model) {
        int a = near(model.changes());
        int b = near(model.changes());
        switch (next(4)) {
            case 0 -> {
                int on = next(4) - 1;
                due.answer(where + "put(" + a + ", " + on + ")", x.put(a, on), model.put(a, on));
            }
            case 1 -> due.answer(where + "undo()", x.undo(), model.undo());
            case 2 -> due.answer(where + "redo()", x.redo(), model.redo());
            default -> due.answer(where + "flip(" + a + ", " + b + ")", x.flip(a, b), model.flip(a, b));
        }
    }

    private void compareQuestion(String where, SelectiveUndo x, Model model) {
        int k = near(model.changes());
        int p = near(model.length());
        switch (next(10)) {
            case 0 -> due.answer(where + "changes()", x.changes(), model.changes());
            case 1 -> due.answer(where + "isOn(" + k + ")", x.isOn(k), model.isOn(k));
            case 2 -> due.answer(where + "length()", x.length(), model.length());
            case 3 -> due.answer(where + "letter(" + p + ")", x.letter(p), model.letter(p));
            case 4 -> due.answer(where + "origin(" + p + ")", x.origin(p), model.origin(p));
            case 5 -> due.answer(where + "where(" + k + ")", x.where(k), model.where(k));
            case 6 -> due.answer(where + "covers(" + k + ")", x.covers(k), model.covers(k));
            case 7 -> due.answer(where + "coveredBy(" + k + ")", x.coveredBy(k), model.coveredBy(k));
            case 8 -> due.answer(where + "effect(" + k + ")", x.effect(k), model.effect(k));
            default -> due.answer(where + "digest()", x.digest(), model.digest());
        }
    }
}
