/**
 * Compares RegisterLab with a reference that finds its answers in another way: the complexity by
 * the Berlekamp-Massey algorithm, the least register and the number of registers by elimination.
 */
public final class ReferenceTest {
    private static final int NONE = -1;
    private static final int CALLS_OF_AN_OBJECT = 512;

    private static int wrong = 0;
    private static long seed = 20261115L;

    public static void main(String[] args) {
        for (int choice = 0; choice <= 2; choice++) {
            everySequence(choice);
        }
        for (int run = 0; run < 300; run++) {
            mixedRun(run % 3);
        }
        System.out.println(wrong == 0 ? "all answers agree with the reference" : wrong + " answers differ");
        if (wrong != 0) {
            System.exit(1);
        }
    }

    private static void due(Reference r, String call, int got, int want) {
        if (got == want) {
            return;
        }
        wrong++;
        if (wrong <= 50) {
            System.out.println("modulo " + r.q + ", sequence " + java.util.Arrays.toString(r.whole())
                + ": " + call + " answered " + got + ", due is " + want);
        }
    }

    private static void everySequence(int choice) {
        Reference r = new Reference(choice);
        for (int n = 0; n <= r.limit; n++) {
            int sequences = 1;
            for (int k = 0; k < n; k++) {
                sequences *= r.q;
            }
            for (int code = 0; code < sequences; code++) {
                RegisterLab x = new RegisterLab(choice);
                r.n = 0;
                for (int k = 0, rest = code; k < n; k++, rest /= r.q) {
                    due(r, "append", x.append(rest % r.q) ? 1 : 0, r.append(rest % r.q) ? 1 : 0);
                }
                compareQuestions(r, x);
            }
        }
    }

    private static void compareQuestions(Reference r, RegisterLab x) {
        due(r, "length()", x.length(), r.n);
        for (int from = -1; from <= r.n + 1; from++) {
            for (int to = -1; to <= r.n + 1; to++) {
                due(r, "complexity(" + from + ", " + to + ")", x.complexity(from, to), r.complexity(from, to));
            }
        }
        due(r, "registers()", x.registers(), r.registers());
        for (int i = 0; i <= r.n + 1; i++) {
            due(r, "coefficient(" + i + ")", x.coefficient(i), r.coefficient(i));
        }
        for (int j = -1; j <= 41; j++) {
            due(r, "predict(" + j + ")", x.predict(j), r.predict(j));
        }
        for (int v = -1; v <= r.q; v++) {
            due(r, "complexityWith(" + v + ")", x.complexityWith(v), r.complexityWith(v));
        }
        due(r, "complexityBackwards()", x.complexityBackwards(), r.complexityBackwards());
        for (int k = -1; k <= r.n + 1; k++) {
            due(r, "holdsUntil(" + k + ")", x.holdsUntil(k), r.holdsUntil(k));
        }
        for (int k = -1; k <= r.n; k++) {
            due(r, "symbol(" + k + ")", x.symbol(k), r.symbol(k));
        }
    }

    private static void mixedRun(int choice) {
        RegisterLab x = new RegisterLab(choice);
        Reference r = new Reference(choice);
        for (int call = 0; call < CALLS_OF_AN_OBJECT; call++) {
            mixedCall(r, x);
        }
    }

    private static void mixedCall(Reference r, RegisterLab x) {
        int a = argument(r);
        int b = argument(r);
        // Appends come up more often than drops, so that the limit is reached.
        switch (next(24)) {
            case 0: case 1: case 2: case 3: case 4:
                due(r, "append(" + a + ")", x.append(a) ? 1 : 0, r.append(a) ? 1 : 0);
                break;
            case 5: case 6: case 7: {
                int v = next(r.q);
                due(r, "append(" + v + ")", x.append(v) ? 1 : 0, r.append(v) ? 1 : 0);
                break;
            }
            case 8: case 9:
                due(r, "drop()", x.drop(), r.drop());
                break;
            case 10: case 11:
                due(r, "change(" + a + ", " + b + ")", x.change(a, b) ? 1 : 0, r.change(a, b) ? 1 : 0);
                break;
            case 12:
                if (next(6) == 0) {
                    x.clear();
                    r.n = 0;
                }
                break;
            case 13:
                due(r, "length()", x.length(), r.n);
                break;
            case 14:
                due(r, "symbol(" + a + ")", x.symbol(a), r.symbol(a));
                break;
            case 15: case 16:
                due(r, "complexity(" + a + ", " + b + ")", x.complexity(a, b), r.complexity(a, b));
                break;
            case 17:
                due(r, "registers()", x.registers(), r.registers());
                break;
            case 18:
                due(r, "coefficient(" + a + ")", x.coefficient(a), r.coefficient(a));
                break;
            case 19: {
                int j = next(44) - 1;
                due(r, "predict(" + j + ")", x.predict(j), r.predict(j));
                break;
            }
            case 20:
                due(r, "complexityWith(" + a + ")", x.complexityWith(a), r.complexityWith(a));
                break;
            case 21:
                due(r, "complexityBackwards()", x.complexityBackwards(), r.complexityBackwards());
                break;
            case 22:
                due(r, "holdsUntil(" + a + ")", x.holdsUntil(a), r.holdsUntil(a));
                break;
            default:
                due(r, "modulus()", x.modulus(), r.q);
                break;
        }
    }

    private static int argument(Reference r) {
        switch (next(40)) {
            case 0: return Integer.MIN_VALUE;
            case 1: return Integer.MAX_VALUE;
            case 2: return -1;
            case 3: return r.q;
            case 4: return r.n;
            case 5: return r.n + 1;
            default: return next(r.limit + 2);
        }
    }

    private static int next(int bound) {
        seed = seed * 6364136223846793005L + 1442695040888963407L;
        return (int) ((seed >>> 33) % bound);
    }

    private static final class Reference {
        final int q;
        final int limit;
        final int[] s = new int[12];
        int n = 0;

        Reference(int choice) {
            q = new int[] {2, 3, 5}[choice];
            limit = new int[] {12, 7, 5}[choice];
        }

        int[] whole() {
            return java.util.Arrays.copyOf(s, n);
        }

        boolean append(int v) {
            if (v < 0 || v >= q || n == limit) {
                return false;
            }
            s[n++] = v;
            return true;
        }

        int drop() {
            return n == 0 ? NONE : s[--n];
        }

        boolean change(int k, int v) {
            if (k < 0 || k >= n || v < 0 || v >= q) {
                return false;
            }
            s[k] = v;
            return true;
        }

        int symbol(int k) {
            return k < 0 || k >= n ? NONE : s[k];
        }

        int complexity(int from, int to) {
            if (from < 0 || to < from || n < to) {
                return NONE;
            }
            return shortest(java.util.Arrays.copyOfRange(s, from, to));
        }

        int registers() {
            int[] t = whole();
            int size = shortest(t);
            int[] c = new int[size];
            int free = size - solve(t, c);
            int number = 1;
            for (int i = 0; i < free; i++) {
                number *= q;
            }
            return number;
        }

        int coefficient(int i) {
            int[] c = least(whole());
            return i < 1 || i > c.length ? NONE : c[i - 1];
        }

        int predict(int j) {
            return j < 0 || j > 40 ? NONE : carriedOn(whole(), n + j + 1)[n + j];
        }

        int complexityWith(int v) {
            if (v < 0 || v >= q) {
                return NONE;
            }
            int[] t = java.util.Arrays.copyOf(s, n + 1);
            t[n] = v;
            return shortest(t);
        }

        int complexityBackwards() {
            int[] t = new int[n];
            for (int k = 0; k < n; k++) {
                t[n - 1 - k] = s[k];
            }
            return shortest(t);
        }

        int holdsUntil(int k) {
            if (k < 0 || k > n) {
                return NONE;
            }
            int[] t = carriedOn(java.util.Arrays.copyOf(s, k), n);
            int j = k;
            while (j < n && t[j] == s[j]) {
                j++;
            }
            return j;
        }

        int[] carriedOn(int[] t, int size) {
            int[] c = least(t);
            int[] u = java.util.Arrays.copyOf(t, size);
            for (int j = t.length; j < size; j++) {
                for (int i = 1; i <= c.length; i++) {
                    u[j] = (u[j] + c[i - 1] * u[j - i]) % q;
                }
            }
            return u;
        }

        int[] least(int[] t) {
            int[] c = new int[shortest(t)];
            solve(t, c);
            return c;
        }

        int inverse(int a) {
            for (int b = 1; b < q; b++) {
                if (a * b % q == 1) {
                    return b;
                }
            }
            throw new ArithmeticException("no inverse of " + a);
        }

        /** Berlekamp-Massey: the length of a shortest register of t. */
        int shortest(int[] t) {
            int[] c = new int[2 * t.length + 2];
            int[] b = new int[2 * t.length + 2];
            c[0] = 1;
            b[0] = 1;
            int size = 0;
            int shift = 1;
            int last = 1;
            for (int k = 0; k < t.length; k++) {
                int d = 0;
                for (int i = 0; i <= size; i++) {
                    d = (d + c[i] * t[k - i]) % q;
                }
                if (d == 0) {
                    shift++;
                    continue;
                }
                int[] before = c.clone();
                int factor = d * inverse(last) % q;
                for (int i = 0; i + shift < c.length; i++) {
                    c[i + shift] = Math.floorMod(c[i + shift] - factor * b[i], q);
                }
                if (2 * size <= k) {
                    size = k + 1 - size;
                    b = before;
                    last = d;
                    shift = 1;
                } else {
                    shift++;
                }
            }
            return size;
        }

        /**
         * Puts the least register of length c.length that generates t into c and answers the rank of
         * its equations. Pivots are taken from the last coefficient on: each one then depends on
         * earlier coefficients alone, so free coefficients at 0 give the least list.
         */
        int solve(int[] t, int[] c) {
            int size = c.length;
            int rows = t.length - size;
            int[][] m = new int[rows][size + 1];
            for (int e = 0; e < rows; e++) {
                for (int i = 1; i <= size; i++) {
                    m[e][i - 1] = t[size + e - i];
                }
                m[e][size] = t[size + e];
            }
            int rank = 0;
            for (int col = size - 1; col >= 0; col--) {
                int pivot = rank;
                while (pivot < rows && m[pivot][col] == 0) {
                    pivot++;
                }
                if (pivot >= rows) {
                    continue;
                }
                int[] row = m[pivot];
                m[pivot] = m[rank];
                m[rank] = row;
                int scale = inverse(row[col]);
                for (int i = 0; i <= size; i++) {
                    row[i] = row[i] * scale % q;
                }
                for (int e = 0; e < rows; e++) {
                    int factor = m[e][col];
                    for (int i = 0; e != rank && i <= size; i++) {
                        m[e][i] = Math.floorMod(m[e][i] - factor * row[i], q);
                    }
                }
                rank++;
            }
            for (int e = 0; e < rank; e++) {
                int col = size - 1;
                while (m[e][col] == 0) {
                    col--;
                }
                c[col] = m[e][size];
            }
            for (int e = rank; e < rows; e++) {
                if (m[e][size] != 0) {
                    throw new ArithmeticException("no register of the length that Berlekamp-Massey found");
                }
            }
            return rank;
        }
    }
}
