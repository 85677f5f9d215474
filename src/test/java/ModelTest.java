import java.util.ArrayList;
import java.util.Collections;
import java.util.HashSet;
import java.util.List;
import java.util.Set;

/** Runs of 512 mixed calls on one object each, refused ones among them, each answer compared with the model's. */
public final class ModelTest {
    private static final int RUNS = 3000;
    private static final int CALLS_OF_AN_OBJECT = 512;
    private static final int[] EXTREMES = {Integer.MIN_VALUE, -100, -2, 31, 32, 33, 48, 64, 100, Integer.MAX_VALUE};
    /** Unlike enough that in some runs nearly all changes are off, in some nearly all on, and some are full late. */
    private static final int[] WEIGHTS = {1, 1, 2, 8};

    private final Due due = new Due();
    private final Set<String> metInside = new HashSet<>();
    private final Set<String> metLast = new HashSet<>();
    private long state = 20261115L;

    public static void main(String[] args) {
        ModelTest test = new ModelTest();
        for (int run = 0; run < RUNS; run++) {
            test.compareOneRun(run);
        }
        test.everyAnswerWasMet("inside a run", test.metInside);
        test.everyAnswerWasMet("as the last of 512 calls", test.metLast);
        test.due.end();
    }

    /** A fixed sequence, so that a fault seen once is seen each time. */
    private int next(int bound) {
        state = state * 6364136223846793005L + 1442695040888963407L;
        return (int) ((state >>> 33) % bound);
    }

    /** Mostly from one below 0 to one above the top, seldom far out. */
    private int near(int top) {
        if (next(40) == 0) {
            return EXTREMES[next(EXTREMES.length)];
        }
        return next(top + 3) - 1;
    }

    private void compareOneRun(int run) {
        SelectiveUndo x = new SelectiveUndo();
        Model model = new Model();
        List<Call> mix = mixOfCalls();
        for (int number = 1; number < CALLS_OF_AN_OBJECT; number++) {
            Call call = mix.get(next(mix.size()));
            metInside.add(compare("run " + run + ", call " + number, call, x, model));
        }
        Call last = Call.values()[run % Call.values().length];
        metLast.add(compare("run " + run + ", call " + CALLS_OF_AN_OBJECT, last, x, model));
    }

    /** Each call once or more often, by a weight that is drawn for it. */
    private List<Call> mixOfCalls() {
        List<Call> mix = new ArrayList<>();
        for (Call call : Call.values()) {
            mix.addAll(Collections.nCopies(WEIGHTS[next(WEIGHTS.length)], call));
        }
        return mix;
    }

    /** Answers what was met: the call, with the code if it answered one of its own. */
    private String compare(String where, Call call, SelectiveUndo x, Model model) {
        int a = firstArgument(call, model);
        int b = secondArgument(call, model);
        int want = call.answer(model, a, b);
        due.answer(where + ": " + call.told(a, b), call.answer(x, a, b), want);
        return call.refusesBy(want) ? call + " " + want : call.toString();
    }

    private int firstArgument(Call call, Model model) {
        return switch (call) {
            case TYPE, ERASE, LETTER, ORIGIN -> near(model.length());
            default -> near(model.changes());
        };
    }

    private int secondArgument(Call call, Model model) {
        return switch (call) {
            case TYPE -> near(25);
            case ERASE -> near(model.length());
            case PUT -> near(1);
            default -> near(model.changes());
        };
    }

    /** Runs that never come to an answer would leave it untested without anyone seeing it. */
    private void everyAnswerWasMet(String where, Set<String> met) {
        for (Call call : Call.values()) {
            if (!met.contains(call.toString())) {
                due.say("no run has " + call + " taken " + where);
            }
            for (int code : call.codes) {
                if (!met.contains(call + " " + code)) {
                    due.say("no run has " + call + " answering " + code + " " + where);
                }
            }
        }
    }
}
