/** A laboratory for shift registers over the numbers modulo a small prime. */
public final class RegisterLab {
    public static final int NONE = -1;

    private static final int GREATEST_LIMIT = 12;
    private static final int LAST_PREDICTION = 40;
    // A full sequence of 12 symbols and the 41 symbols that predict may carry it on by.
    private static final int STUDY_ROOM = 53;
    // complexityWith may need 13 coefficients; place 0 stays unused, so that taps[i] is ci.
    private static final int TAP_ROOM = 14;

    private final int q;
    private final int limit;

    private final int[] symbols = new int[GREATEST_LIMIT];
    private int count;

    // Questions work on a copy, so that none of them can change the sequence itself.
    private final int[] study = new int[STUDY_ROOM];
    private int studyLength;

    private final int[] taps = new int[TAP_ROOM];
    private int tapCount;

    public RegisterLab(int choice) {
        if (choice <= 0) {
            q = 2;
            limit = 12;
        } else if (choice == 1) {
            q = 3;
            limit = 7;
        } else {
            q = 5;
            limit = 5;
        }
    }

    public int modulus() {
        return q;
    }

    public boolean append(int v) {
        if (!isSymbol(v) || count >= limit) {
            return false;
        }
        symbols[count] = v;
        count++;
        return true;
    }

    public int drop() {
        if (count == 0) {
            return NONE;
        }
        count--;
        return symbols[count];
    }

    public boolean change(int k, int v) {
        if (!isPlace(k) || !isSymbol(v)) {
            return false;
        }
        symbols[k] = v;
        return true;
    }

    public void clear() {
        count = 0;
    }

    public int length() {
        return count;
    }

    public int symbol(int k) {
        return isPlace(k) ? symbols[k] : NONE;
    }

    public int complexity(int from, int to) {
        if (from < 0 || from > to || to > count) {
            return NONE;
        }
        studyPart(from, to);
        findLeastRegister();
        return tapCount;
    }

    public int registers() {
        studyPart(0, count);
        findLeastRegister();
        return countGenerators(tapCount);
    }

    public int coefficient(int i) {
        studyPart(0, count);
        findLeastRegister();
        return i >= 1 && i <= tapCount ? taps[i] : NONE;
    }

    public int predict(int j) {
        if (j < 0 || j > LAST_PREDICTION) {
            return NONE;
        }
        studyPart(0, count);
        findLeastRegister();
        for (int place = count; place <= count + j; place++) {
            study[place] = carriedSymbol(place);
        }
        return study[count + j];
    }

    public int complexityWith(int v) {
        if (!isSymbol(v)) {
            return NONE;
        }
        studyPart(0, count);
        study[count] = v;
        studyLength = count + 1;
        findLeastRegister();
        return tapCount;
    }

    public int complexityBackwards() {
        for (int k = 0; k < count; k++) {
            study[k] = symbols[count - 1 - k];
        }
        studyLength = count;
        findLeastRegister();
        return tapCount;
    }

    public int holdsUntil(int k) {
        if (k < 0 || k > count) {
            return NONE;
        }
        studyPart(0, k);
        findLeastRegister();
        for (int place = k; place < count; place++) {
            study[place] = carriedSymbol(place);
            if (study[place] != symbols[place]) {
                return place;
            }
        }
        return count;
    }

    private boolean isSymbol(int v) {
        return v >= 0 && v < q;
    }

    private boolean isPlace(int k) {
        return k >= 0 && k < count;
    }

    private void studyPart(int from, int to) {
        studyLength = to - from;
        for (int k = 0; k < studyLength; k++) {
            study[k] = symbols[from + k];
        }
    }

    // Some length always succeeds: a register as long as the studied sequence generates it.
    private void findLeastRegister() {
        boolean found = false;
        for (int length = 0; length <= studyLength && !found; length++) {
            found = findGenerator(length);
        }
    }

    // Registers are tried in the dictionary order, so the first that generates is the least.
    private boolean findGenerator(int length) {
        int all = registersOfLength(length);
        startRegisters(length);
        for (int tried = 0; tried < all; tried++) {
            if (generatesStudy()) {
                return true;
            }
            nextRegister();
        }
        return false;
    }

    private int countGenerators(int length) {
        int all = registersOfLength(length);
        int generators = 0;
        startRegisters(length);
        for (int tried = 0; tried < all; tried++) {
            if (generatesStudy()) {
                generators++;
            }
            nextRegister();
        }
        return generators;
    }

    private int registersOfLength(int length) {
        int all = 1;
        for (int i = 1; i <= length; i++) {
            all = all * q;
        }
        return all;
    }

    private void startRegisters(int length) {
        tapCount = length;
        for (int i = 1; i <= length; i++) {
            taps[i] = 0;
        }
    }

    // Counts up with the last coefficient as the lowest digit: this is the dictionary order.
    private void nextRegister() {
        for (int i = tapCount; i >= 1; i--) {
            if (taps[i] < q - 1) {
                taps[i]++;
                return;
            }
            taps[i] = 0;
        }
    }

    private boolean generatesStudy() {
        for (int place = tapCount; place < studyLength; place++) {
            if (study[place] != carriedSymbol(place)) {
                return false;
            }
        }
        return true;
    }

    private int carriedSymbol(int place) {
        int sum = 0;
        for (int i = 1; i <= tapCount; i++) {
            sum += taps[i] * study[place - i];
        }
        return sum % q;
    }
}
