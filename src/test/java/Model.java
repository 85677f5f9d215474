import java.util.ArrayList;
import java.util.HashSet;
import java.util.List;
import java.util.Set;

/** The document's terms told once more, with objects and sets, to compare the class with. */
final class Model {
    private static final int BAD_ARG = -1;
    private static final int FULL = -2;
    private static final int NONE = -4;

    private static final class Letter {
        final int value;
        final int typedBy;

        Letter(int value, int typedBy) {
            this.value = value;
            this.typedBy = typedBy;
        }
    }

    private static final class Change {
        boolean on = true;
        Letter typed;
        final Set<Letter> covered = new HashSet<>();
    }

    private final List<Letter> list = new ArrayList<>();
    private final List<Change> changes = new ArrayList<>();

    private List<Letter> text() {
        List<Letter> text = new ArrayList<>(list);
        text.removeIf(letter -> !changes.get(letter.typedBy).on);
        for (Change change : changes) {
            if (change.on) {
                text.removeAll(change.covered);
            }
        }
        return text;
    }

    private boolean lacks(int k) {
        return k < 0 || k >= changes.size();
    }

    int type(int p, int c) {
        List<Letter> text = text();
        if (c < 0 || c > 25 || p < 0 || p > text.size()) {
            return BAD_ARG;
        }
        if (changes.size() == 32 || list.size() == 48) {
            return FULL;
        }
        Change change = new Change();
        change.typed = new Letter(c, changes.size());
        list.add(p == 0 ? 0 : list.indexOf(text.get(p - 1)) + 1, change.typed);
        changes.add(change);
        return changes.size() - 1;
    }

    int erase(int i, int j) {
        List<Letter> text = text();
        if (i < 0 || j <= i || j > text.size()) {
            return BAD_ARG;
        }
        if (changes.size() == 32) {
            return FULL;
        }
        Change change = new Change();
        change.covered.addAll(text.subList(i, j));
        changes.add(change);
        return changes.size() - 1;
    }

    int put(int k, int on) {
        if (lacks(k)) {
            return BAD_ARG;
        }
        int before = isOn(k) ? 1 : 0;
        changes.get(k).on = on != 0;
        return before;
    }

    int undo() {
        int highest = NONE;
        for (int k = 0; k < changes.size(); k++) {
            highest = isOn(k) ? k : highest;
        }
        put(highest, 0);
        return highest;
    }

    int redo() {
        int lowest = NONE;
        for (int k = changes.size() - 1; k >= 0; k--) {
            lowest = isOn(k) ? lowest : k;
        }
        put(lowest, 1);
        return lowest;
    }

    int flip(int a, int b) {
        if (a < 0 || b < a || lacks(b)) {
            return BAD_ARG;
        }
        List<Change> flipped = changes.subList(a, b + 1);
        flipped.forEach(change -> change.on = !change.on);
        return (int) flipped.stream().filter(change -> change.on).count();
    }

    int changes() {
        return changes.size();
    }

    boolean isOn(int k) {
        return !lacks(k) && changes.get(k).on;
    }

    int length() {
        return text().size();
    }

    int letter(int p) {
        return p < 0 || p >= length() ? NONE : text().get(p).value;
    }

    int origin(int p) {
        return p < 0 || p >= length() ? NONE : text().get(p).typedBy;
    }

    int where(int k) {
        if (lacks(k) || changes.get(k).typed == null) {
            return NONE;
        }
        int place = text().indexOf(changes.get(k).typed);
        return place < 0 ? NONE : place;
    }

    int covers(int k) {
        return lacks(k) ? BAD_ARG : changes.get(k).covered.size();
    }

    int coveredBy(int k) {
        if (lacks(k)) {
            return BAD_ARG;
        }
        Letter typed = changes.get(k).typed;
        if (typed == null) {
            return NONE;
        }
        return (int) changes.stream().filter(change -> change.on && change.covered.contains(typed)).count();
    }

    /** Counted from the covers, not by trying the switch out as the class does. */
    int effect(int k) {
        if (lacks(k)) {
            return 0;
        }
        Change change = changes.get(k);
        if (change.typed != null) {
            return coveredBy(k) > 0 ? 0 : change.on ? -1 : 1;
        }
        int own = change.on ? 1 : 0;
        int touched = 0;
        for (Letter letter : change.covered) {
            touched += isOn(letter.typedBy) && coveredBy(letter.typedBy) == own ? 1 : 0;
        }
        return change.on ? touched : -touched;
    }

    int digest() {
        List<Letter> text = text();
        int sum = 0;
        for (int p = 0; p < text.size(); p++) {
            sum += (p + 1) * (text.get(p).value + 1);
        }
        return sum;
    }
}
