/** Runs of 512 calls on one object whose answers are known beforehand, up to the last of them. */
public final class LongRunTest {
    private static final int BAD_ARG = SelectiveUndo.BAD_ARG;
    private static final int FULL = SelectiveUndo.FULL;
    private static final int NONE = SelectiveUndo.NONE;
    private static final int CALLS_OF_AN_OBJECT = 512;

    private static final Due due = new Due();
    private static SelectiveUndo x;
    private static int made;

    public static void main(String[] args) {
        due.sentence("An object is used for at most 512 calls after it has been made");
        everyCallInTurn();
        refusedCallsUseNothingUp();
        switchingWearsNothingOut();
        due.end();
    }

    private static void begin() {
        x = new SelectiveUndo();
        made = 0;
    }

    private static void call(Call call, int a, int b, int want) {
        made++;
        due.answer("call " + made + ", " + call.told(a, b), call.answer(x, a, b), want);
    }

    private static void call(Call call, int a, int want) {
        call(call, a, 0, want);
    }

    private static void call(Call call, int want) {
        call(call, 0, 0, want);
    }

    private static void endOfRun(String run) {
        due.answer(run + ": calls made", made, CALLS_OF_AN_OBJECT);
    }

    /** 31 rounds with each of the sixteen calls once, then a last round with 32 changes. */
    private static void everyCallInTurn() {
        begin();
        int digest = 0;
        for (int n = 0; n < 31; n++) {
            digest += (n + 1) * (n % 26 + 1);
            roundOfEveryCall(n, digest);
        }
        roundOfTheLastChange(digest);
        endOfRun("every call in turn");
    }

    private static void roundOfEveryCall(int n, int digest) {
        call(Call.TYPE, n, n % 26, n);
        call(Call.ERASE, 0, n + 2, BAD_ARG);
        call(Call.PUT, n, 0, 1);
        call(Call.REDO, n);
        call(Call.UNDO, n);
        call(Call.FLIP, n, n, 1);
        call(Call.CHANGES, n + 1);
        call(Call.IS_ON, n, 1);
        call(Call.LENGTH, n + 1);
        call(Call.LETTER, n, n % 26);
        call(Call.ORIGIN, n + 1, NONE);
        call(Call.WHERE, n, n);
        call(Call.COVERS, n + 1, BAD_ARG);
        call(Call.COVERED_BY, n, 0);
        call(Call.EFFECT, n, -1);
        call(Call.DIGEST, digest);
    }

    private static void roundOfTheLastChange(int digest) {
        call(Call.ERASE, 0, 31, 31);
        call(Call.TYPE, 0, 25, FULL);
        call(Call.TYPE, 1, 25, BAD_ARG);
        call(Call.COVERS, 31, 31);
        call(Call.COVERED_BY, 31, NONE);
        call(Call.EFFECT, 31, 31);
        call(Call.LENGTH, 0);
        call(Call.REDO, NONE);
        call(Call.UNDO, 31);
        call(Call.DIGEST, digest);
        call(Call.ERASE, 0, 1, FULL);
        call(Call.FLIP, 0, 31, 1);
        call(Call.LETTER, 0, NONE);
        call(Call.UNDO, 31);
        call(Call.UNDO, NONE);
        call(Call.REDO, 0);
    }

    /** 480 refused calls, then 32 changes by the calls that are left, the last of them by call 512. */
    private static void refusedCallsUseNothingUp() {
        begin();
        for (int n = 0; n < 80; n++) {
            call(Call.TYPE, 1, 0, BAD_ARG);
            call(Call.ERASE, 0, 1, BAD_ARG);
            call(Call.PUT, 0, 1, BAD_ARG);
            call(Call.UNDO, NONE);
            call(Call.REDO, NONE);
            call(Call.FLIP, 0, 0, BAD_ARG);
        }
        for (int n = 0; n < 31; n++) {
            call(Call.TYPE, n, 25, n);
        }
        call(Call.ERASE, 0, 31, 31);
        endOfRun("refused calls first");
    }

    /** A full object, all of whose changes are turned again and again. */
    private static void switchingWearsNothingOut() {
        begin();
        for (int n = 0; n < 30; n++) {
            call(Call.TYPE, 0, n % 26, n);
        }
        call(Call.ERASE, 0, 10, 30);
        call(Call.ERASE, 5, 15, 31);
        for (int turn = 0; turn < 96; turn++) {
            boolean off = turn % 2 == 0;
            call(Call.FLIP, 0, 31, off ? 0 : 32);
            call(Call.LENGTH, off ? 0 : 10);
            call(Call.EFFECT, 31, off ? 0 : 10);
            call(Call.ORIGIN, 5, off ? NONE : 4);
            call(Call.COVERED_BY, 29, off ? 0 : 1);
        }
        endOfRun("turning");
    }
}
