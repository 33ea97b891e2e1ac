/** Promise by promise: ordinary inputs, the edges that the document names, and wrong inputs. */
public final class PromisesTest {
    private static final int NONE = -1;
    private static final int MIN = Integer.MIN_VALUE;
    private static final int MAX = Integer.MAX_VALUE;

    private static int wrong = 0;

    public static void main(String[] args) {
        newObject();
        modulus();
        append();
        drop();
        change();
        clear();
        length();
        symbol();
        complexity();
        registers();
        coefficient();
        predict();
        complexityWith();
        complexityBackwards();
        holdsUntil();
        questionsChangeNothing();
        objectsAreApart();
        System.out.println(wrong == 0 ? "every promise is kept" : wrong + " answers are wrong");
        if (wrong != 0) {
            System.exit(1);
        }
    }

    private static void due(int promise, String call, int got, int want) {
        if (got != want) {
            wrong++;
            System.out.println("promise " + promise + ": " + call + " answered " + got + ", due is " + want);
        }
    }

    private static void due(int promise, String call, boolean got, boolean want) {
        due(promise, call, got ? 1 : 0, want ? 1 : 0);
    }

    private static RegisterLab lab(int choice, int... symbols) {
        RegisterLab x = new RegisterLab(choice);
        for (int v : symbols) {
            due(3, "append(" + v + ") while filling", x.append(v), true);
        }
        return x;
    }

    private static void holds(int promise, RegisterLab x, int... symbols) {
        due(promise, "length()", x.length(), symbols.length);
        for (int k = 0; k < symbols.length; k++) {
            due(promise, "symbol(" + k + ")", x.symbol(k), symbols[k]);
        }
        due(promise, "symbol(" + symbols.length + ") behind the end", x.symbol(symbols.length), NONE);
    }

    private static int choiceOf(int q) {
        return q == 2 ? 0 : q == 3 ? 1 : 2;
    }

    private static int limitOf(int q) {
        return q == 2 ? 12 : q == 3 ? 7 : 5;
    }

    private static void newObject() {
        int[] choices = {MIN, -7, -1, 0, 1, 2, 3, 4, 5, 100, MAX};
        int[] primes = {2, 2, 2, 2, 3, 5, 5, 5, 5, 5, 5};
        for (int c = 0; c < choices.length; c++) {
            RegisterLab x = new RegisterLab(choices[c]);
            due(1, "modulus() of choice " + choices[c], x.modulus(), primes[c]);
            holds(1, x);
            due(1, "complexity(0, 0)", x.complexity(0, 0), 0);
            int taken = 0;
            while (taken < 50 && x.append(primes[c] - 1)) {
                taken++;
            }
            due(1, "symbols taken with choice " + choices[c], taken, limitOf(primes[c]));
        }
        due(1, "NONE", RegisterLab.NONE, NONE);
    }

    private static void modulus() {
        RegisterLab x = lab(1, 2, 1);
        due(2, "modulus() after appending", x.modulus(), 3);
        x.drop();
        x.clear();
        due(2, "modulus() after clearing", x.modulus(), 3);
    }

    private static void append() {
        for (int q : new int[] {2, 3, 5}) {
            RegisterLab x = new RegisterLab(choiceOf(q));
            for (int v : new int[] {MIN, -2, -1, q, q + 1, 2 * q, MAX}) {
                due(3, "append(" + v + ") modulo " + q, x.append(v), false);
                holds(3, x);
            }
            int[] all = new int[limitOf(q)];
            for (int k = 0; k < all.length; k++) {
                all[k] = (k * k + 1) % q;
                due(3, "append(" + all[k] + ")", x.append(all[k]), true);
            }
            for (int v = -1; v <= q; v++) {
                due(3, "append(" + v + ") at the limit", x.append(v), false);
            }
            holds(3, x, all);
            x.drop();
            due(3, "append(0) below the limit again", x.append(0), true);
            all[all.length - 1] = 0;
            holds(3, x, all);
        }
    }

    private static void drop() {
        RegisterLab x = new RegisterLab(2);
        due(4, "drop() of nothing", x.drop(), NONE);
        holds(4, x);
        x = lab(2, 4, 0, 3);
        due(4, "drop()", x.drop(), 3);
        holds(4, x, 4, 0);
        due(4, "drop()", x.drop(), 0);
        due(4, "drop()", x.drop(), 4);
        due(4, "drop() after the last", x.drop(), NONE);
        due(4, "drop() after the last", x.drop(), NONE);
        due(4, "append(2)", x.append(2), true);
        holds(4, x, 2);
    }

    private static void change() {
        RegisterLab x = new RegisterLab(1);
        due(5, "change(0, 0) of nothing", x.change(0, 0), false);
        x = lab(1, 2, 0, 1);
        due(5, "change(0, 1)", x.change(0, 1), true);
        due(5, "change(1, 1) to another", x.change(1, 1), true);
        due(5, "change(2, 1) to the same", x.change(2, 1), true);
        holds(5, x, 1, 1, 1);
        due(5, "change(2, 2)", x.change(2, 2), true);
        for (int k : new int[] {MIN, -1, 3, 4, 7, 12, 13, MAX}) {
            due(5, "change(" + k + ", 0)", x.change(k, 0), false);
        }
        for (int v : new int[] {MIN, -1, 3, 4, MAX}) {
            due(5, "change(1, " + v + ")", x.change(1, v), false);
            due(5, "change(3, " + v + ")", x.change(3, v), false);
        }
        holds(5, x, 1, 1, 2);
        x.drop();
        due(5, "change(2, 0) of a dropped symbol", x.change(2, 0), false);
        holds(5, x, 1, 1);
        due(5, "change(0, 1) modulo 2", lab(0, 0).change(0, 1), true);
        due(5, "change(0, 2) modulo 2", lab(0, 0).change(0, 2), false);
        due(5, "change(0, 4) modulo 5", lab(2, 0).change(0, 4), true);
        due(5, "change(0, 5) modulo 5", lab(2, 0).change(0, 5), false);
    }

    private static void clear() {
        RegisterLab x = new RegisterLab(0);
        x.clear();
        holds(6, x);
        x = lab(0, 1, 1, 0, 1, 0, 0, 1, 1, 1, 0, 1, 1);
        x.clear();
        holds(6, x);
        due(6, "drop()", x.drop(), NONE);
        due(6, "complexity(0, 1)", x.complexity(0, 1), NONE);
        due(6, "append(0)", x.append(0), true);
        holds(6, x, 0);
        due(6, "complexity(0, 1)", x.complexity(0, 1), 0);
    }

    private static void length() {
        RegisterLab x = new RegisterLab(2);
        due(7, "length()", x.length(), 0);
        for (int n = 1; n <= 5; n++) {
            x.append(n - 1);
            due(7, "length()", x.length(), n);
        }
        x.append(0);
        due(7, "length() after a refused append", x.length(), 5);
        x.change(0, 4);
        due(7, "length() after a change", x.length(), 5);
        x.drop();
        due(7, "length() after a drop", x.length(), 4);
        x.clear();
        due(7, "length() after clear", x.length(), 0);
        x.drop();
        due(7, "length() after a refused drop", x.length(), 0);
    }

    private static void symbol() {
        RegisterLab x = lab(2, 4, 0, 3);
        due(8, "symbol(0)", x.symbol(0), 4);
        due(8, "symbol(1)", x.symbol(1), 0);
        due(8, "symbol(2)", x.symbol(2), 3);
        for (int k : new int[] {MIN, -1, 3, 5, 12, 13, MAX}) {
            due(8, "symbol(" + k + ")", x.symbol(k), NONE);
        }
        x.drop();
        due(8, "symbol(2) after its drop", x.symbol(2), NONE);
        due(8, "symbol(0) of nothing", new RegisterLab(0).symbol(0), NONE);
        x = lab(0, 0, 0, 0, 0, 0, 0, 0, 0, 0, 0, 0, 1);
        due(8, "symbol(11) of a full sequence", x.symbol(11), 1);
        due(8, "symbol(12) of a full sequence", x.symbol(12), NONE);
    }

    private static void complexity() {
        RegisterLab x = lab(1, 0, 1, 1, 2, 0, 2, 2);
        due(9, "complexity(0, 7) of Fibonacci modulo 3", x.complexity(0, 7), 2);
        due(9, "complexity(0, 1) of one 0", x.complexity(0, 1), 0);
        due(9, "complexity(1, 2) of one 1", x.complexity(1, 2), 1);
        due(9, "complexity(0, 2) of 0 1", x.complexity(0, 2), 2);
        due(9, "complexity(1, 3) of 1 1", x.complexity(1, 3), 1);
        due(9, "complexity(1, 4) of 1 1 2", x.complexity(1, 4), 2);
        for (int k = 0; k <= 7; k++) {
            due(9, "complexity(" + k + ", " + k + ") of nothing", x.complexity(k, k), 0);
        }
        int[][] bad = {{-1, 0}, {-1, 3}, {MIN, MAX}, {MIN, 0}, {3, 2}, {0, 8}, {8, 8}, {7, 8}, {0, MAX},
            {MAX, MAX}, {MAX, MIN}, {0, MIN}, {-1, -1}, {MIN, MIN}, {0, -1}, {1, 0}};
        for (int[] b : bad) {
            due(9, "complexity(" + b[0] + ", " + b[1] + ")", x.complexity(b[0], b[1]), NONE);
        }
        due(9, "complexity of 12 zeros", lab(0, 0, 0, 0, 0, 0, 0, 0, 0, 0, 0, 0, 0).complexity(0, 12), 0);
        due(9, "complexity of 11 zeros and a 1",
            lab(0, 0, 0, 0, 0, 0, 0, 0, 0, 0, 0, 0, 1).complexity(0, 12), 12);
        due(9, "complexity of a 1 and 11 zeros",
            lab(0, 1, 0, 0, 0, 0, 0, 0, 0, 0, 0, 0, 0).complexity(0, 12), 1);
        due(9, "complexity of 0 0 0 0 3", lab(2, 0, 0, 0, 0, 3).complexity(0, 5), 5);
        due(9, "complexity of 1 2 4 3 1", lab(2, 1, 2, 4, 3, 1).complexity(0, 5), 1);
        x = lab(0, 1, 1);
        x.drop();
        due(9, "complexity(0, 2) beyond a dropped symbol", x.complexity(0, 2), NONE);
    }

    private static void registers() {
        due(10, "registers() of nothing", new RegisterLab(0).registers(), 1);
        due(10, "registers() of zeros", lab(2, 0, 0, 0).registers(), 1);
        due(10, "registers() of one 1 modulo 2", lab(0, 1).registers(), 2);
        due(10, "registers() of one 1 modulo 3", lab(1, 1).registers(), 3);
        due(10, "registers() of one 4 modulo 5", lab(2, 4).registers(), 5);
        due(10, "registers() of 4 4 modulo 5", lab(2, 4, 4).registers(), 1);
        due(10, "registers() of 0 1 modulo 3", lab(1, 0, 1).registers(), 9);
        due(10, "registers() of 0 1 1 modulo 3", lab(1, 0, 1, 1).registers(), 3);
        due(10, "registers() of 0 0 0 0 1 modulo 5", lab(2, 0, 0, 0, 0, 1).registers(), 3125);
        due(10, "registers() of 0 .. 0 2 modulo 3", lab(1, 0, 0, 0, 0, 0, 0, 2).registers(), 2187);
        due(10, "registers() of 0 .. 0 1 modulo 2",
            lab(0, 0, 0, 0, 0, 0, 0, 0, 0, 0, 0, 0, 1).registers(), 4096);
    }

    private static void coefficient() {
        RegisterLab x = lab(1, 0, 1, 1, 2);
        due(11, "coefficient(1)", x.coefficient(1), 1);
        due(11, "coefficient(2)", x.coefficient(2), 1);
        for (int i : new int[] {MIN, -1, 0, 3, 4, 7, 13, 14, MAX}) {
            due(11, "coefficient(" + i + ")", x.coefficient(i), NONE);
        }
        // c1 is 1 for every register of 0 1 1, and c2 is free: the least has c2 = 0.
        x = lab(1, 0, 1, 1);
        due(11, "coefficient(1) of 0 1 1", x.coefficient(1), 1);
        due(11, "coefficient(2) of 0 1 1", x.coefficient(2), 0);
        // 1 0 0 1 asks c3 = 1 alone: c1 and c2 are free, and least at 0.
        x = lab(0, 1, 0, 0, 1);
        due(11, "coefficient(1) of 1 0 0 1", x.coefficient(1), 0);
        due(11, "coefficient(2) of 1 0 0 1", x.coefficient(2), 0);
        due(11, "coefficient(3) of 1 0 0 1", x.coefficient(3), 1);
        // 1 1 2 asks c1 + c2 = 2: of (0, 2), (1, 1) and (2, 0) the first is least.
        x = lab(1, 1, 1, 2);
        due(11, "coefficient(1) of 1 1 2", x.coefficient(1), 0);
        due(11, "coefficient(2) of 1 1 2", x.coefficient(2), 2);
        x = lab(2, 0, 0);
        due(11, "coefficient(0) of zeros", x.coefficient(0), NONE);
        due(11, "coefficient(1) of zeros", x.coefficient(1), NONE);
        due(11, "coefficient(1) of nothing", new RegisterLab(2).coefficient(1), NONE);
        x = lab(0, 0, 0, 0, 0, 0, 0, 0, 0, 0, 0, 0, 1);
        due(11, "coefficient(12) of a full sequence", x.coefficient(12), 0);
        due(11, "coefficient(13) of a full sequence", x.coefficient(13), NONE);
    }

    private static void predict() {
        RegisterLab x = lab(1, 0, 1, 1, 2, 0, 2, 2);
        int[] fibonacci = {1, 0, 1, 1, 2, 0, 2, 2};
        for (int j = 0; j <= 40; j++) {
            due(12, "predict(" + j + ")", x.predict(j), fibonacci[j % 8]);
        }
        for (int j : new int[] {MIN, -2, -1, 41, 42, 100, MAX}) {
            due(12, "predict(" + j + ")", x.predict(j), NONE);
        }
        for (int j = 0; j <= 40; j++) {
            due(12, "predict(" + j + ") of nothing", new RegisterLab(0).predict(j), 0);
            due(12, "predict(" + j + ") of zeros", lab(2, 0, 0).predict(j), 0);
        }
        due(12, "predict(-1) of nothing", new RegisterLab(0).predict(-1), NONE);
        due(12, "predict(41) of nothing", new RegisterLab(0).predict(41), NONE);
        // 1 1 0 over and over, up to the limit: predict(40) is the farthest symbol there is.
        x = lab(0, 1, 1, 0, 1, 1, 0, 1, 1, 0, 1, 1, 0);
        due(12, "predict(0) of a full sequence", x.predict(0), 1);
        due(12, "predict(2) of a full sequence", x.predict(2), 0);
        due(12, "predict(39) of a full sequence", x.predict(39), 1);
        due(12, "predict(40) of a full sequence", x.predict(40), 1);
        due(12, "predict(38) of a full sequence", x.predict(38), 0);
        // 1 1 2 modulo 3 goes on by (0, 2), its least register: 2 1 1 2 2 1 ..
        x = lab(1, 1, 1, 2);
        due(12, "predict(0) of 1 1 2", x.predict(0), 2);
        due(12, "predict(1) of 1 1 2", x.predict(1), 1);
        due(12, "predict(2) of 1 1 2", x.predict(2), 1);
        due(12, "predict(3) of 1 1 2", x.predict(3), 2);
    }

    private static void complexityWith() {
        RegisterLab x = new RegisterLab(1);
        due(13, "complexityWith(0) of nothing", x.complexityWith(0), 0);
        due(13, "complexityWith(2) of nothing", x.complexityWith(2), 1);
        for (int q : new int[] {2, 3, 5}) {
            x = lab(choiceOf(q), 0, 1);
            for (int v : new int[] {MIN, -1, q, q + 1, MAX}) {
                due(13, "complexityWith(" + v + ") modulo " + q, x.complexityWith(v), NONE);
            }
            for (int v = 0; v < q; v++) {
                due(13, "complexityWith(" + v + ") of 0 1", x.complexityWith(v), 2);
            }
            RegisterLab full = new RegisterLab(choiceOf(q));
            for (int k = 0; k < limitOf(q); k++) {
                full.append(0);
            }
            due(13, "complexityWith(0) of zeros at the limit", full.complexityWith(0), 0);
            due(13, "complexityWith(1) of zeros at the limit", full.complexityWith(1), limitOf(q) + 1);
            due(13, "complexityWith(q) at the limit", full.complexityWith(q), NONE);
            due(13, "complexityWith(-1) at the limit", full.complexityWith(-1), NONE);
            due(13, "length() after complexityWith", full.length(), limitOf(q));
        }
    }

    private static void complexityBackwards() {
        due(14, "complexityBackwards() of nothing", new RegisterLab(0).complexityBackwards(), 0);
        due(14, "complexityBackwards() of 0 0", lab(1, 0, 0).complexityBackwards(), 0);
        due(14, "complexityBackwards() of 2", lab(1, 2).complexityBackwards(), 1);
        due(14, "complexityBackwards() of 0 0 0 4", lab(2, 0, 0, 0, 4).complexityBackwards(), 1);
        due(14, "complexityBackwards() of 4 0 0 0", lab(2, 4, 0, 0, 0).complexityBackwards(), 4);
        due(14, "complexityBackwards() of 1 0 .. 0",
            lab(0, 1, 0, 0, 0, 0, 0, 0, 0, 0, 0, 0, 0).complexityBackwards(), 12);
        RegisterLab x = lab(2, 4, 0, 0, 0, 0);
        x.drop();
        x.drop();
        due(14, "complexityBackwards() of 4 0 0 after drops", x.complexityBackwards(), 3);
    }

    private static void holdsUntil() {
        RegisterLab x = lab(1, 0, 1, 1, 2, 0, 2, 1);
        due(15, "holdsUntil(0): zeros until the 1", x.holdsUntil(0), 1);
        due(15, "holdsUntil(1): zeros until the 1", x.holdsUntil(1), 1);
        due(15, "holdsUntil(2): 0 1 goes on with 0", x.holdsUntil(2), 2);
        due(15, "holdsUntil(3): 0 1 1 goes on with 1", x.holdsUntil(3), 3);
        due(15, "holdsUntil(4): Fibonacci until the last", x.holdsUntil(4), 6);
        due(15, "holdsUntil(5)", x.holdsUntil(5), 6);
        due(15, "holdsUntil(6)", x.holdsUntil(6), 6);
        due(15, "holdsUntil(7)", x.holdsUntil(7), 7);
        for (int k : new int[] {MIN, -1, 8, 12, 13, MAX}) {
            due(15, "holdsUntil(" + k + ")", x.holdsUntil(k), NONE);
        }
        x.drop();
        due(15, "holdsUntil(4) rightly to the end", x.holdsUntil(4), 6);
        due(15, "holdsUntil(7) behind a dropped symbol", x.holdsUntil(7), NONE);
        due(15, "holdsUntil(0) of nothing", new RegisterLab(0).holdsUntil(0), 0);
        due(15, "holdsUntil(1) of nothing", new RegisterLab(0).holdsUntil(1), NONE);
        due(15, "holdsUntil(0) of zeros", lab(2, 0, 0, 0, 0, 0).holdsUntil(0), 5);
        due(15, "holdsUntil(2) of 1 2 4 3 1", lab(2, 1, 2, 4, 3, 1).holdsUntil(2), 5);
        due(15, "holdsUntil(2) of 1 2 4 2 1", lab(2, 1, 2, 4, 2, 1).holdsUntil(2), 3);
    }

    private static void questionsChangeNothing() {
        int[] symbols = {1, 0, 2, 2, 0, 1, 1};
        RegisterLab x = lab(1, symbols);
        for (int a = -1; a <= 8; a++) {
            x.complexity(a, 7);
            x.complexity(0, a);
            x.coefficient(a);
            x.predict(a);
            x.predict(40 - a);
            x.complexityWith(a);
            x.holdsUntil(a);
            x.symbol(a);
            x.registers();
            x.complexityBackwards();
            x.modulus();
            x.length();
        }
        holds(8, x, symbols);
    }

    private static void objectsAreApart() {
        RegisterLab x = lab(1, 2, 1);
        RegisterLab y = lab(2, 4);
        y.complexityWith(3);
        x.append(0);
        y.drop();
        holds(1, x, 2, 1, 0);
        holds(1, y);
        due(2, "modulus()", x.modulus(), 3);
        due(2, "modulus()", y.modulus(), 5);
    }
}
