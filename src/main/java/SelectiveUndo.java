public final class SelectiveUndo {
    public static final int BAD_ARG = -1;
    public static final int FULL = -2;
    public static final int NONE = -4;

    private static final int MAX_CHARACTERS = 48;
    private static final int MAX_CHANGES = 32;
    private static final int LETTERS = 26;

    // Stands in place of a letter for a change that erases; no letter is negative.
    private static final int ERASES = -1;

    // A change types one character at most, so a character goes by the number of the
    // change that typed it: in the list, and as the bit of that number in a cover.
    private final int[] list = new int[MAX_CHARACTERS];
    private final boolean[] switchedOn = new boolean[MAX_CHANGES];
    private final int[] letterOf = new int[MAX_CHANGES];
    private final long[] coverOf = new long[MAX_CHANGES];
    private int listLength;
    private int changeCount;

    public SelectiveUndo() {
        listLength = 0;
        changeCount = 0;
    }

    public int type(int p, int c) {
        if (c < 0 || c >= LETTERS || p < 0 || p > length()) {
            return BAD_ARG;
        }
        if (changeCount >= MAX_CHANGES || listLength >= MAX_CHARACTERS) {
            return FULL;
        }
        int index = 0;
        if (p > 0) {
            index = listIndexOfPlace(p - 1) + 1;
        }
        insertIntoList(index, changeCount);
        return addChange(c, 0L);
    }

    public int erase(int i, int j) {
        if (i < 0 || j <= i || j > length()) {
            return BAD_ARG;
        }
        if (changeCount >= MAX_CHANGES) {
            return FULL;
        }
        long cover = coverOfPlaces(i, j);
        return addChange(ERASES, cover);
    }

    public int put(int k, int on) {
        if (!isChange(k)) {
            return BAD_ARG;
        }
        int before = switchedOn[k] ? 1 : 0;
        switchedOn[k] = on != 0;
        return before;
    }

    public int undo() {
        for (int k = changeCount - 1; k >= 0; k--) {
            if (switchedOn[k]) {
                switchedOn[k] = false;
                return k;
            }
        }
        return NONE;
    }

    public int redo() {
        for (int k = 0; k < changeCount; k++) {
            if (!switchedOn[k]) {
                switchedOn[k] = true;
                return k;
            }
        }
        return NONE;
    }

    public int flip(int a, int b) {
        if (a < 0 || b < a || b >= changeCount) {
            return BAD_ARG;
        }
        int onAfterwards = 0;
        for (int k = a; k <= b; k++) {
            switchedOn[k] = !switchedOn[k];
            if (switchedOn[k]) {
                onAfterwards++;
            }
        }
        return onAfterwards;
    }

    public int changes() {
        return changeCount;
    }

    public boolean isOn(int k) {
        return isChange(k) && switchedOn[k];
    }

    public int length() {
        int count = 0;
        for (int index = 0; index < listLength; index++) {
            if (isShown(list[index])) {
                count++;
            }
        }
        return count;
    }

    public int letter(int p) {
        int index = listIndexOfPlace(p);
        return index == NONE ? NONE : letterOf[list[index]];
    }

    public int origin(int p) {
        int index = listIndexOfPlace(p);
        return index == NONE ? NONE : list[index];
    }

    // A change that erases, or that there is not, is never met in the list.
    public int where(int k) {
        int place = 0;
        for (int index = 0; index < listLength; index++) {
            int character = list[index];
            if (isShown(character)) {
                if (character == k) {
                    return place;
                }
                place++;
            }
        }
        return NONE;
    }

    public int covers(int k) {
        if (!isChange(k)) {
            return BAD_ARG;
        }
        int count = 0;
        for (int character = 0; character < changeCount; character++) {
            if ((coverOf[k] & bitOf(character)) != 0L) {
                count++;
            }
        }
        return count;
    }

    public int coveredBy(int k) {
        if (!isChange(k)) {
            return BAD_ARG;
        }
        if (letterOf[k] == ERASES) {
            return NONE;
        }
        return coversThatAreOn(k);
    }

    // Trying the switch out and taking it back leaves the rule of what is shown in one place.
    public int effect(int k) {
        if (!isChange(k)) {
            return 0;
        }
        int before = length();
        switchedOn[k] = !switchedOn[k];
        int after = length();
        switchedOn[k] = !switchedOn[k];
        return after - before;
    }

    public int digest() {
        int sum = 0;
        int place = 0;
        for (int index = 0; index < listLength; index++) {
            int character = list[index];
            if (isShown(character)) {
                sum += (place + 1) * (letterOf[character] + 1);
                place++;
            }
        }
        return sum;
    }

    private boolean isChange(int k) {
        return k >= 0 && k < changeCount;
    }

    private boolean isShown(int character) {
        return switchedOn[character] && coversThatAreOn(character) == 0;
    }

    private int coversThatAreOn(int character) {
        long bit = bitOf(character);
        int count = 0;
        for (int k = 0; k < changeCount; k++) {
            if (switchedOn[k] && (coverOf[k] & bit) != 0L) {
                count++;
            }
        }
        return count;
    }

    private long bitOf(int character) {
        return 1L << character;
    }

    private int listIndexOfPlace(int p) {
        int place = 0;
        for (int index = 0; index < listLength; index++) {
            if (isShown(list[index])) {
                if (place == p) {
                    return index;
                }
                place++;
            }
        }
        return NONE;
    }

    private long coverOfPlaces(int i, int j) {
        long cover = 0L;
        int place = 0;
        for (int index = 0; index < listLength; index++) {
            int character = list[index];
            if (isShown(character)) {
                if (place >= i && place < j) {
                    cover |= bitOf(character);
                }
                place++;
            }
        }
        return cover;
    }

    private void insertIntoList(int index, int character) {
        for (int moved = listLength; moved > index; moved--) {
            list[moved] = list[moved - 1];
        }
        list[index] = character;
        listLength++;
    }

    private int addChange(int letterOrErases, long cover) {
        int number = changeCount;
        letterOf[number] = letterOrErases;
        coverOf[number] = cover;
        switchedOn[number] = true;
        changeCount++;
        return number;
    }
}
