import java.util.function.Consumer;
import java.util.stream.IntStream;

/** States to which calls bring an object, with what is known of each. */
enum Stage {
    /** Without a change. */
    NEW(0, 0, x -> { }),
    /** Changes 0 to 4 type abcde. */
    WORD(5, 5, x -> typeLetters(x, 5)),
    /** Changes 0 to 4 type abcde, 5 erases bcd, 6 types j behind a; the text is aje. */
    ERASED(7, 3, x -> {
        typeLetters(x, 5);
        x.erase(1, 4);
        x.type(1, 9);
    }),
    /** The changes of ERASED, each off. */
    ERASED_OFF(7, 0, x -> {
        ERASED.build(x);
        putAllOff(x, 7);
    }),
    /** 31 typings: one change more is taken. */
    ALMOST(31, 31, x -> typeLetters(x, 31)),
    /** 32 typings: the longest text that there can be. */
    LONGEST(32, 32, x -> typeLetters(x, 32)),
    /** 32 changes, of which the last two erase the first and the last character, and change 7 is off. */
    FILLED(32, 27, x -> {
        typeLetters(x, 30);
        x.erase(0, 1);
        x.erase(28, 29);
        x.put(7, 0);
    }),
    /** The changes of FILLED, each off. */
    FILLED_OFF(32, 0, x -> {
        FILLED.build(x);
        putAllOff(x, 32);
    });

    static final int LEAST = Integer.MIN_VALUE;
    static final int GREATEST = Integer.MAX_VALUE;

    final int changes;
    final int length;
    private final Consumer<SelectiveUndo> calls;

    Stage(int changes, int length, Consumer<SelectiveUndo> calls) {
        this.changes = changes;
        this.length = length;
        this.calls = calls;
    }

    SelectiveUndo made() {
        SelectiveUndo x = new SelectiveUndo();
        build(x);
        return x;
    }

    private void build(SelectiveUndo x) {
        calls.accept(x);
    }

    /** Numbers of which there is no change: the first on each side, far ones, and the least and the greatest int. */
    int[] noChange() {
        return outside(changes);
    }

    /** Places that the text has not. */
    int[] noPlace() {
        return outside(length);
    }

    /** Numbers that are not 0 to count - 1, among them some that a shift or a narrow type would wrap onto it. */
    static int[] outside(int count) {
        int last = Math.max(count - 1, 0);
        return IntStream.of(LEAST, LEAST + 1, LEAST + last, -65536, -64, -32, -5, -4, -2, -1,
                count, count + 1, 31, 32, 33, 47, 48, 49, last + 32, last + 64, last + 256, last + 65536,
                GREATEST - 1, GREATEST).filter(n -> n < 0 || n >= count).distinct().toArray();
    }

    private static void typeLetters(SelectiveUndo x, int count) {
        for (int n = 0; n < count; n++) {
            x.type(n, n % 26);
        }
    }

    private static void putAllOff(SelectiveUndo x, int count) {
        for (int k = 0; k < count; k++) {
            x.put(k, 0);
        }
    }
}
