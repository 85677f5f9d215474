import java.util.Arrays;
import java.util.stream.IntStream;

/** The calls of the document's face, with the codes that each may answer; made on the class and on the model alike. */
enum Call {
    TYPE("type", 2, SelectiveUndo::type, Model::type, SelectiveUndo.BAD_ARG, SelectiveUndo.FULL),
    ERASE("erase", 2, SelectiveUndo::erase, Model::erase, SelectiveUndo.BAD_ARG, SelectiveUndo.FULL),
    PUT("put", 2, SelectiveUndo::put, Model::put, SelectiveUndo.BAD_ARG),
    UNDO("undo", 0, (x, a, b) -> x.undo(), (x, a, b) -> x.undo(), SelectiveUndo.NONE),
    REDO("redo", 0, (x, a, b) -> x.redo(), (x, a, b) -> x.redo(), SelectiveUndo.NONE),
    FLIP("flip", 2, SelectiveUndo::flip, Model::flip, SelectiveUndo.BAD_ARG),
    CHANGES("changes", 0, (x, a, b) -> x.changes(), (x, a, b) -> x.changes()),
    IS_ON("isOn", 1, (x, a, b) -> x.isOn(a) ? 1 : 0, (x, a, b) -> x.isOn(a) ? 1 : 0),
    LENGTH("length", 0, (x, a, b) -> x.length(), (x, a, b) -> x.length()),
    LETTER("letter", 1, (x, a, b) -> x.letter(a), (x, a, b) -> x.letter(a), SelectiveUndo.NONE),
    ORIGIN("origin", 1, (x, a, b) -> x.origin(a), (x, a, b) -> x.origin(a), SelectiveUndo.NONE),
    WHERE("where", 1, (x, a, b) -> x.where(a), (x, a, b) -> x.where(a), SelectiveUndo.NONE),
    COVERS("covers", 1, (x, a, b) -> x.covers(a), (x, a, b) -> x.covers(a), SelectiveUndo.BAD_ARG),
    COVERED_BY("coveredBy", 1, (x, a, b) -> x.coveredBy(a), (x, a, b) -> x.coveredBy(a),
            SelectiveUndo.BAD_ARG, SelectiveUndo.NONE),
    EFFECT("effect", 1, (x, a, b) -> x.effect(a), (x, a, b) -> x.effect(a)),
    DIGEST("digest", 0, (x, a, b) -> x.digest(), (x, a, b) -> x.digest());

    /** Those that change the object unless they are refused; the others ask. */
    static final Call[] CHANGING = {TYPE, ERASE, PUT, UNDO, REDO, FLIP};

    /** Takes two arguments always; a call that has fewer leaves the rest aside. */
    private interface Action<T> {
        int answer(T x, int a, int b);
    }

    final String spelling;
    final int[] codes;
    private final int arguments;
    private final Action<SelectiveUndo> onClass;
    private final Action<Model> onModel;

    Call(String spelling, int arguments, Action<SelectiveUndo> onClass, Action<Model> onModel, int... codes) {
        this.spelling = spelling;
        this.arguments = arguments;
        this.onClass = onClass;
        this.onModel = onModel;
        this.codes = codes;
    }

    int answer(SelectiveUndo x, int a, int b) {
        return onClass.answer(x, a, b);
    }

    int answer(Model model, int a, int b) {
        return onModel.answer(model, a, b);
    }

    boolean refusesBy(int answer) {
        return IntStream.of(codes).anyMatch(code -> code == answer);
    }

    String told(int a, int b) {
        String both = Arrays.toString(Arrays.copyOf(new int[] {a, b}, arguments));
        return spelling + "(" + both.substring(1, both.length() - 1) + ")";
    }
}
