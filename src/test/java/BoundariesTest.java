import java.util.ArrayList;
import java.util.Arrays;
import java.util.List;
import java.util.function.Consumer;

/**
 * One test for each sentence of the document that names a boundary case. A test runs for each of the
 * three values of q where the sentence does not speak of one alone. No object gets more than 512
 * calls, since later answers are free.
 */
public final class BoundariesTest {
    private static final int NONE = -1;
    private static final int MIN = Integer.MIN_VALUE;
    private static final int MAX = Integer.MAX_VALUE;
    private static final int[] PRIMES = {2, 3, 5};

    private static String sentence = "";
    private static int wrong = 0;
    private static int tests = 0;

    public static void main(String[] args) {
        terms();
        sequencePromises();
        questionPromises();
        System.out.println(tests + " sentences tested, " + wrong + " answers wrong");
        if (wrong != 0) {
            System.exit(1);
        }
    }

    private static void terms() {
        test("Terms: at most limit: 12 when q is 2", () -> limitIs(2, 12));
        test("Terms: 7 when q is 3", () -> limitIs(3, 7));
        test("Terms: 5 when q is 5", () -> limitIs(5, 5));
        test("Terms: coefficients c1 .. cL, each 0 .. q - 1", BoundariesTest::coefficientsReachBothEnds);
        test("Terms: the sum, modulo q", BoundariesTest::sumWrapsAround);
        test("Terms: the sum is 0 when L is 0", BoundariesTest::emptySumIsZero);
        test("Terms: every register of length k or more generates any k symbols",
            BoundariesTest::longRegisterGenerates);
        test("Terms: the least length of a register", BoundariesTest::complexityIsLeastLength);
        test("Terms: least in the dictionary order", BoundariesTest::firstCoefficientWeighsMost);
        test("What it is: at most 512 calls after it has been made", BoundariesTest::lastCallIsAnswered);
        test("LANGUAGE.md, rule 7: no call may ever throw", BoundariesTest::laterCallsEnd);
    }

    private static void sequencePromises() {
        test("1: an empty sequence", BoundariesTest::newObjectIsEmpty);
        test("1: 0 or less gives q = 2", () -> choicesGive(2, 0, -1, -2, -255, -65536, MIN + 1, MIN));
        test("1: 1 gives q = 3", () -> choicesGive(3, 1));
        test("1: 2 or more gives q = 5", () -> choicesGive(5, 2, 3, 4, 5, 256, 257, 65536, 65537, MAX - 1, MAX));
        test("2: the prime q, in every state", BoundariesTest::modulusStays);
        test("3: appends symbol v, 0 and q - 1 too, and answers true", BoundariesTest::appendTakesBothEnds);
        test("3: appends up to the last place", BoundariesTest::appendTakesTheLastPlace);
        test("3: false, changing nothing, when v is not 0 .. q - 1", BoundariesTest::appendRefusesWrongSymbols);
        test("3: false, changing nothing, when limit symbols are there", BoundariesTest::appendRefusesAtLimit);
        test("4: takes the last symbol away and answers it", BoundariesTest::dropFromFullToEmpty);
        test("4: NONE when there is none", BoundariesTest::dropOfNothing);
        test("5: changes symbol k to v, at the first and the last place, and answers true",
            BoundariesTest::changeTakesBothEnds);
        test("5: false, changing nothing, when k is not 0 .. length() - 1", BoundariesTest::changeRefusesWrongPlaces);
        test("5: false, changing nothing, when v is not 0 .. q - 1", BoundariesTest::changeRefusesWrongSymbols);
        test("6: makes the sequence empty", BoundariesTest::clearFromEmptyAndFull);
        test("7: the number of symbols", BoundariesTest::lengthFromEmptyToFull);
        test("8: symbol k, at the first and the last place", BoundariesTest::symbolAtBothEnds);
        test("8: NONE when k is not 0 .. length() - 1", BoundariesTest::symbolOutside);
    }

    private static void questionPromises() {
        test("9: the symbols s(from) .. s(to - 1)", BoundariesTest::complexityOfSmallestParts);
        test("9: taken as a sequence of its own", BoundariesTest::complexityForgetsWhatIsBefore);
        test("9: NONE unless 0 <= from", BoundariesTest::complexityFromTooSmall);
        test("9: NONE unless from <= to", BoundariesTest::complexityFromAboveTo);
        test("9: NONE unless to <= length()", BoundariesTest::complexityToTooLarge);
        test("9: NONE unless 0 <= from <= to <= length(), all edges together", BoundariesTest::complexityEdges);
        test("10: registers of the empty sequence", BoundariesTest::registersOfNothing);
        test("10: registers of a full sequence, from one to all", BoundariesTest::registersOfFull);
        test("11: coefficient ci, i from 1 to the length", BoundariesTest::coefficientInside);
        test("11: NONE when i is not from 1 to its length", BoundariesTest::coefficientOutside);
        test("12: s(length() + j), j from 0 to 40", BoundariesTest::predictInside);
        test("12: all 0 when its length is 0", BoundariesTest::predictByNoRegister);
        test("12: NONE when j is not 0 .. 40", BoundariesTest::predictOutside);
        test("13: with v appended, 0 and q - 1 too", BoundariesTest::complexityWithBothEnds);
        test("13: the limit does not matter", BoundariesTest::complexityWithAtLimit);
        test("13: NONE when v is not 0 .. q - 1", BoundariesTest::complexityWithWrongSymbols);
        test("14: the sequence read backwards, empty, of one symbol, and full", BoundariesTest::backwards);
        test("15: the least j from k", BoundariesTest::holdsUntilFirstPlace);
        test("15: to length() - 1", BoundariesTest::holdsUntilLastPlace);
        test("15: length() when it goes on rightly to the end", BoundariesTest::holdsUntilEnd);
        test("15: NONE when k is not 0 .. length()", BoundariesTest::holdsUntilOutside);
        test("9 to 15: a refused question changes nothing", BoundariesTest::refusedQuestionsChangeNothing);
        test("9 to 15: an answered question changes nothing", BoundariesTest::questionsChangeNothing);
    }

    // ---- Terms

    private static void limitIs(int q, int limit) {
        RegisterLab x = lab(q);
        for (int k = 0; k < limit; k++) {
            due("append as symbol " + k + " modulo " + q, x.append(0), true);
        }
        due("append behind " + limit + " symbols modulo " + q, x.append(0), false);
        due("length()", x.length(), limit);
    }

    private static void coefficientsReachBothEnds() {
        for (int q : PRIMES) {
            RegisterLab x = lab(q, 1, q - 1);
            due("coefficient(1) of 1 and q - 1", x.coefficient(1), q - 1);
            x = lab(q, 1, 0);
            due("coefficient(1) of 1 0", x.coefficient(1), 0);
            // Were q a coefficient too, or 0 or q - 1 none, then another number would be counted.
            due("registers() of one symbol", lab(q, q - 1).registers(), q);
            // 0 1 and then two symbols by c1 = c2 = q - 1, the last register of its length.
            x = lab(q, 0, 1, q - 1, (q - 1) * q % q);
            due("coefficient(1) of the last register of length 2", x.coefficient(1), q - 1);
            due("coefficient(2) of the last register of length 2", x.coefficient(2), q - 1);
            due("registers() of the last register of length 2", x.registers(), 1);
        }
    }

    private static void sumWrapsAround() {
        for (int q : PRIMES) {
            // (q - 1) * (q - 1) is 1 modulo q.
            int[] turning = new int[limitOf(q)];
            for (int k = 0; k < turning.length; k++) {
                turning[k] = k % 2 == 0 ? 1 : q - 1;
            }
            RegisterLab x = lab(q, turning);
            due("complexity of 1 q-1 1 q-1 .. modulo " + q, x.complexity(0, turning.length), 1);
            due("coefficient(1)", x.coefficient(1), q - 1);
            due("predict(40)", x.predict(40), turning.length % 2 == 0 ? 1 : q - 1);
            int[] fibonacci = fibonacci(q, limitOf(q));
            due("complexity of Fibonacci modulo " + q, lab(q, fibonacci).complexity(0, fibonacci.length), 2);
        }
    }

    private static void emptySumIsZero() {
        for (int q : PRIMES) {
            due("complexity of one 0", lab(q, 0).complexity(0, 1), 0);
            due("complexity of zeros", lab(q, zeros(limitOf(q))).complexity(0, limitOf(q)), 0);
            for (int v = 1; v < q; v++) {
                due("complexity of one " + v, lab(q, v).complexity(0, 1), 1);
            }
        }
    }

    private static void longRegisterGenerates() {
        for (int q : PRIMES) {
            for (int k = 1; k <= limitOf(q); k++) {
                RegisterLab x = lab(q, zerosAndOne(k));
                due("complexity of zeros and a 1, " + k + " symbols modulo " + q, x.complexity(0, k), k);
                due("registers()", x.registers(), power(q, k));
            }
        }
    }

    private static void complexityIsLeastLength() {
        for (int q : PRIMES) {
            // Two coefficients are needed for Fibonacci, and every greater length would do as well.
            int[] fibonacci = fibonacci(q, 4);
            due("complexity of four Fibonacci symbols", lab(q, fibonacci).complexity(0, 4), 2);
            due("complexity of a 1 and zeros", lab(q, oneAndZeros(limitOf(q))).complexity(0, limitOf(q)), 1);
        }
    }

    private static void firstCoefficientWeighsMost() {
        for (int q : PRIMES) {
            // 1 1 v asks c1 + c2 = v modulo q, so (0, v) is the least.
            for (int v = 0; v < q; v++) {
                if (v != 1) {
                    RegisterLab x = lab(q, 1, 1, v);
                    due("coefficient(1) of 1 1 " + v + " modulo " + q, x.coefficient(1), 0);
                    due("coefficient(2) of 1 1 " + v + " modulo " + q, x.coefficient(2), v);
                }
            }
        }
    }

    private static void lastCallIsAnswered() {
        for (int q : PRIMES) {
            int[] full = mixed(q, limitOf(q));
            RegisterLab once = lab(q, full);
            int[] dueAnswers = new int[12];
            for (int which = 0; which < dueAnswers.length; which++) {
                dueAnswers[which] = ask(once, which);
            }
            for (int which = 0; which < dueAnswers.length; which++) {
                RegisterLab x = lab(q, full);
                for (int call = full.length + 1; call < 512; call++) {
                    ask(x, call % dueAnswers.length);
                }
                due("question " + which + " as the 512th call modulo " + q, ask(x, which), dueAnswers[which]);
            }
            RegisterLab x = usedUp(q, 508);
            due("append(q - 1) as the 509th call", x.append(q - 1), true);
            due("change(0, 1) as the 510th call", x.change(0, 1), true);
            due("drop() as the 511th call", x.drop(), 1);
            due("length() as the 512th call", x.length(), 0);
            x = usedUp(q, 510);
            x.append(1);
            due("drop() as the 512th call", x.drop(), 1);
            due("append(1) as the 512th call", usedUp(q, 511).append(1), true);
        }
    }

    private static void laterCallsEnd() {
        for (int q : PRIMES) {
            RegisterLab x = lab(q, mixed(q, limitOf(q)));
            for (int call = 0; call < 3000; call++) {
                ask(x, call % 12);
                x.append(0);
                x.change(0, 0);
            }
            for (int call = 0; call < 1000; call++) {
                x.drop();
            }
            x.clear();
        }
    }

    // ---- Promises 1 to 8

    private static void newObjectIsEmpty() {
        for (int choice : new int[] {MIN, -1, 0, 1, 2, 3, MAX}) {
            RegisterLab x = new RegisterLab(choice);
            due("length() of choice " + choice, x.length(), 0);
            due("symbol(0)", x.symbol(0), NONE);
            due("complexity(0, 0)", x.complexity(0, 0), 0);
            due("complexity(0, 1)", x.complexity(0, 1), NONE);
            due("holdsUntil(1)", x.holdsUntil(1), NONE);
            due("drop()", x.drop(), NONE);
        }
    }

    private static void choicesGive(int q, int... choices) {
        for (int choice : choices) {
            RegisterLab x = new RegisterLab(choice);
            due("modulus() of choice " + choice, x.modulus(), q);
            due("append(q) of choice " + choice, x.append(q), false);
            due("append(q - 1) of choice " + choice, x.append(q - 1), true);
            for (int k = 1; k < limitOf(q); k++) {
                x.append(0);
            }
            due("length() when full, of choice " + choice, x.length(), limitOf(q));
            due("append(0) when full, of choice " + choice, x.append(0), false);
        }
    }

    private static void modulusStays() {
        for (int q : PRIMES) {
            RegisterLab x = lab(q);
            due("modulus() of nothing", x.modulus(), q);
            x.drop();
            x.append(q);
            x.change(0, q);
            due("modulus() after refused calls", x.modulus(), q);
            x = lab(q, ones(limitOf(q)));
            due("modulus() when full", x.modulus(), q);
            x.append(0);
            due("modulus() after a refused append", x.modulus(), q);
            x.clear();
            due("modulus() after clear", x.modulus(), q);
        }
    }

    private static void appendTakesBothEnds() {
        for (int q : PRIMES) {
            RegisterLab x = lab(q);
            due("append(0) modulo " + q, x.append(0), true);
            due("append(" + (q - 1) + ") modulo " + q, x.append(q - 1), true);
            holds(x, 0, q - 1);
        }
    }

    private static void appendTakesTheLastPlace() {
        for (int q : PRIMES) {
            int last = limitOf(q) - 1;
            for (int v = 0; v < q; v++) {
                int[] symbols = Arrays.copyOf(mixed(q, last), last + 1);
                symbols[last] = v;
                RegisterLab x = lab(q, mixed(q, last));
                due("append(" + v + ") in the last place modulo " + q, x.append(v), true);
                holds(x, symbols);
            }
        }
    }

    private static void appendRefusesWrongSymbols() {
        for (int q : PRIMES) {
            for (int[] symbols : new int[][] {{}, {q - 1}, mixed(q, limitOf(q) - 1), mixed(q, limitOf(q))}) {
                for (int v : wrongSymbols(q)) {
                    refused("append(" + v + ")", q, symbols, x -> due("append(" + v + ")", x.append(v), false));
                }
            }
        }
    }

    private static void appendRefusesAtLimit() {
        for (int q : PRIMES) {
            int[] full = mixed(q, limitOf(q));
            for (int v = 0; v < q; v++) {
                int symbol = v;
                refused("append(" + v + ") at the limit", q, full,
                    x -> due("append(" + symbol + ") at the limit", x.append(symbol), false));
            }
            RegisterLab x = lab(q, full);
            x.append(0);
            x.append(0);
            due("drop() after refused appends", x.drop(), full[full.length - 1]);
            due("append(0) after that drop", x.append(0), true);
            due("append(0) at the limit again", x.append(0), false);
        }
    }

    private static void dropFromFullToEmpty() {
        for (int q : PRIMES) {
            int[] full = mixed(q, limitOf(q));
            RegisterLab x = lab(q, full);
            for (int k = full.length - 1; k >= 0; k--) {
                due("drop() with " + (k + 1) + " symbols modulo " + q, x.drop(), full[k]);
                holds(x, Arrays.copyOf(full, k));
            }
        }
    }

    private static void dropOfNothing() {
        for (int q : PRIMES) {
            refused("drop() of nothing", q, new int[0], x -> due("drop() of a new object", x.drop(), NONE));
            RegisterLab x = lab(q, 0);
            due("drop() of one 0", x.drop(), 0);
            due("drop() behind the last symbol", x.drop(), NONE);
            due("drop() once more", x.drop(), NONE);
            due("append(1) after refused drops", x.append(1), true);
            holds(x, 1);
            x.clear();
            due("drop() after clear", x.drop(), NONE);
        }
    }

    private static void changeTakesBothEnds() {
        for (int q : PRIMES) {
            for (int n : new int[] {1, 2, limitOf(q)}) {
                for (int k : new int[] {0, n - 1}) {
                    for (int v = 0; v < q; v++) {
                        int[] symbols = mixed(q, n);
                        RegisterLab x = lab(q, symbols);
                        due("change(" + k + ", " + v + ") of " + n + " modulo " + q, x.change(k, v), true);
                        symbols[k] = v;
                        holds(x, symbols);
                    }
                }
            }
        }
    }

    private static void changeRefusesWrongPlaces() {
        for (int q : PRIMES) {
            for (int n : new int[] {0, 1, limitOf(q) - 1, limitOf(q)}) {
                for (int k : wrongPlaces(n)) {
                    for (int v : new int[] {0, q - 1, q, -1}) {
                        String call = "change(" + k + ", " + v + ") of " + n + " modulo " + q;
                        refused(call, q, mixed(q, n), x -> due(call, x.change(k, v), false));
                    }
                }
            }
            RegisterLab x = lab(q, 1, 1);
            x.drop();
            due("change(1, 0) where a symbol was dropped", x.change(1, 0), false);
            x.clear();
            due("change(0, 0) where all was cleared", x.change(0, 0), false);
        }
    }

    private static void changeRefusesWrongSymbols() {
        for (int q : PRIMES) {
            for (int n : new int[] {1, limitOf(q)}) {
                for (int k : new int[] {0, n - 1}) {
                    for (int v : wrongSymbols(q)) {
                        String call = "change(" + k + ", " + v + ") of " + n + " modulo " + q;
                        refused(call, q, mixed(q, n), x -> due(call, x.change(k, v), false));
                    }
                }
            }
        }
    }

    private static void clearFromEmptyAndFull() {
        for (int q : PRIMES) {
            for (int n : new int[] {0, 1, limitOf(q)}) {
                RegisterLab x = lab(q, ones(n));
                x.clear();
                same("clear() of " + n + " symbols modulo " + q, x, lab(q));
                x = lab(q, ones(n));
                x.clear();
                x.clear();
                for (int k = 0; k < limitOf(q); k++) {
                    due("append(0) after clear", x.append(0), true);
                }
                due("append(0) at the limit after clear", x.append(0), false);
                same("zeros after clear modulo " + q, x, lab(q, zeros(limitOf(q))));
            }
        }
    }

    private static void lengthFromEmptyToFull() {
        for (int q : PRIMES) {
            RegisterLab x = lab(q);
            due("length() of nothing", x.length(), 0);
            x.drop();
            due("length() after a refused drop", x.length(), 0);
            for (int n = 1; n <= limitOf(q); n++) {
                x.append(q - 1);
                due("length()", x.length(), n);
            }
            x.append(0);
            due("length() after a refused append", x.length(), limitOf(q));
            x.drop();
            due("length() after a drop", x.length(), limitOf(q) - 1);
        }
    }

    private static void symbolAtBothEnds() {
        for (int q : PRIMES) {
            for (int n = 1; n <= limitOf(q); n++) {
                int[] symbols = zeros(n);
                symbols[0] = q - 1;
                due("symbol(0) of " + n, lab(q, symbols).symbol(0), q - 1);
                symbols = zeros(n);
                symbols[n - 1] = q - 1;
                due("symbol(" + (n - 1) + ") of " + n, lab(q, symbols).symbol(n - 1), q - 1);
            }
        }
    }

    private static void symbolOutside() {
        for (int q : PRIMES) {
            for (int n = 0; n <= limitOf(q); n++) {
                RegisterLab x = lab(q, ones(n));
                for (int k : wrongPlaces(n)) {
                    due("symbol(" + k + ") of " + n, x.symbol(k), NONE);
                }
            }
            RegisterLab x = lab(q, 1, 1);
            x.drop();
            due("symbol(1) that was dropped", x.symbol(1), NONE);
            x.clear();
            due("symbol(0) that was cleared", x.symbol(0), NONE);
        }
    }

    // ---- Promises 9 to 15

    private static void complexityOfSmallestParts() {
        for (int q : PRIMES) {
            for (int n : new int[] {0, 1, limitOf(q)}) {
                RegisterLab x = lab(q, ones(n));
                for (int k = 0; k <= n; k++) {
                    due("complexity(" + k + ", " + k + ") of nothing", x.complexity(k, k), 0);
                }
                for (int k = 0; k < n; k++) {
                    due("complexity(" + k + ", " + (k + 1) + ") of one 1", x.complexity(k, k + 1), 1);
                }
            }
            int n = limitOf(q);
            RegisterLab x = lab(q, zerosAndOne(n));
            due("complexity(0, n) with s(n - 1)", x.complexity(0, n), n);
            due("complexity(0, n - 1) without s(n - 1)", x.complexity(0, n - 1), 0);
            due("complexity(n - 1, n) of s(n - 1)", x.complexity(n - 1, n), 1);
            x = lab(q, oneAndZeros(n));
            due("complexity(0, 1) of s(0)", x.complexity(0, 1), 1);
            due("complexity(1, n) without s(0)", x.complexity(1, n), 0);
        }
    }

    private static void complexityForgetsWhatIsBefore() {
        for (int q : PRIMES) {
            int n = limitOf(q);
            RegisterLab x = lab(q, zerosAndOne(n));
            for (int from = 0; from < n; from++) {
                due("complexity(" + from + ", n) of zeros and a 1", x.complexity(from, n), n - from);
            }
        }
    }

    private static void complexityFromTooSmall() {
        for (int q : PRIMES) {
            for (int n : new int[] {0, 1, limitOf(q)}) {
                RegisterLab x = lab(q, ones(n));
                due("complexity(0, 0)", x.complexity(0, 0), 0);
                due("complexity(0, n)", x.complexity(0, n), n == 0 ? 0 : 1);
                for (int from : new int[] {-1, -2, -12, -256, MIN + 1, MIN}) {
                    for (int to : new int[] {from, -1, 0, n}) {
                        due("complexity(" + from + ", " + to + ") of " + n, x.complexity(from, to), NONE);
                    }
                }
            }
        }
    }

    private static void complexityFromAboveTo() {
        for (int q : PRIMES) {
            int n = limitOf(q);
            RegisterLab x = lab(q, ones(n));
            for (int to = 0; to <= n; to++) {
                due("complexity(" + to + ", " + to + ")", x.complexity(to, to), 0);
                due("complexity(" + (to + 1) + ", " + to + ")", x.complexity(to + 1, to), NONE);
                due("complexity(MAX, " + to + ")", x.complexity(MAX, to), NONE);
            }
            due("complexity(0, -1)", x.complexity(0, -1), NONE);
            due("complexity(0, MIN)", x.complexity(0, MIN), NONE);
            due("complexity(MAX, MIN)", x.complexity(MAX, MIN), NONE);
            due("complexity(n, 0)", x.complexity(n, 0), NONE);
        }
    }

    private static void complexityToTooLarge() {
        for (int q : PRIMES) {
            for (int n = 0; n <= limitOf(q); n++) {
                RegisterLab x = lab(q, ones(n));
                due("complexity(n, n) of " + n, x.complexity(n, n), 0);
                for (int to : new int[] {n + 1, n + 2, 13, 14, 53, 54, 256 + n, 65536 + n, MAX - 1, MAX}) {
                    for (int from : new int[] {0, n, n + 1, to}) {
                        due("complexity(" + from + ", " + to + ") of " + n, x.complexity(from, to), NONE);
                    }
                }
            }
            RegisterLab x = lab(q, 1, 1);
            x.drop();
            due("complexity(0, 2) with a dropped symbol", x.complexity(0, 2), NONE);
        }
    }

    private static void complexityEdges() {
        for (int q : PRIMES) {
            for (int n = 0; n <= limitOf(q); n++) {
                RegisterLab x = lab(q, ones(n));
                int[] edges = {MIN, -1, 0, 1, n - 1, n, n + 1, 12, 13, MAX};
                for (int from : edges) {
                    for (int to : edges) {
                        boolean inside = 0 <= from && from <= to && to <= n;
                        due("complexity(" + from + ", " + to + ") of " + n, x.complexity(from, to),
                            !inside ? NONE : from == to ? 0 : 1);
                    }
                }
            }
        }
    }

    private static void registersOfNothing() {
        for (int q : PRIMES) {
            due("registers() of a new object", lab(q).registers(), 1);
            RegisterLab x = lab(q, 1);
            x.drop();
            due("registers() after the last drop", x.registers(), 1);
            x = lab(q, zerosAndOne(limitOf(q)));
            x.clear();
            due("registers() after clear", x.registers(), 1);
        }
    }

    private static void registersOfFull() {
        for (int q : PRIMES) {
            int n = limitOf(q);
            due("registers() of zeros", lab(q, zeros(n)).registers(), 1);
            due("registers() of ones", lab(q, ones(n)).registers(), 1);
            due("registers() of zeros and a 1", lab(q, zerosAndOne(n)).registers(), power(q, n));
            // 0 .. 0 1 1 asks c1 = 1 alone and leaves the other n - 2 coefficients free.
            int[] twoOnes = zerosAndOne(n);
            twoOnes[n - 2] = 1;
            due("registers() of zeros and 1 1", lab(q, twoOnes).registers(), power(q, n - 2));
        }
    }

    private static void coefficientInside() {
        for (int q : PRIMES) {
            int n = limitOf(q);
            RegisterLab x = lab(q, zerosAndOne(n));
            for (int i = 1; i <= n; i++) {
                due("coefficient(" + i + ") of zeros and a 1", x.coefficient(i), 0);
            }
            x = lab(q, q - 1);
            due("coefficient(1) of one symbol", x.coefficient(1), 0);
            // 1 0 .. 0 1, full, asks that the last of its coefficients is 1.
            int[] far = oneAndZeros(n);
            far[n - 1] = 1;
            x = lab(q, far);
            due("coefficient(1) of 1 0 .. 0 1", x.coefficient(1), 0);
            due("coefficient(n - 1) of 1 0 .. 0 1", x.coefficient(n - 1), 1);
            due("coefficient(n) of 1 0 .. 0 1", x.coefficient(n), NONE);
        }
    }

    private static void coefficientOutside() {
        for (int q : PRIMES) {
            for (int n = 0; n <= limitOf(q); n++) {
                noCoefficientsBut(0, lab(q, zeros(n)));
                noCoefficientsBut(n == 0 ? 0 : 1, lab(q, ones(n)));
                noCoefficientsBut(n, n == 0 ? lab(q) : lab(q, zerosAndOne(n)));
            }
            // A longer register that another question found does not remain.
            RegisterLab x = lab(q, zeros(limitOf(q)));
            x.complexityWith(1);
            due("coefficient(1) after complexityWith(1)", x.coefficient(1), NONE);
        }
    }

    private static void noCoefficientsBut(int length, RegisterLab x) {
        for (int i : new int[] {MIN, MIN + 1, -2, -1, 0, length + 1, length + 2, 13, 14, 256 + length, MAX - 1, MAX}) {
            due("coefficient(" + i + ") of a register of length " + length, x.coefficient(i), NONE);
        }
        if (length > 0) {
            due("whether coefficient(1) is there", x.coefficient(1) == NONE, false);
            due("whether coefficient(" + length + ") is there", x.coefficient(length) == NONE, false);
        }
    }

    private static void predictInside() {
        for (int q : PRIMES) {
            for (int n : new int[] {4, 5, limitOf(q)}) {
                int[] going = fibonacci(q, n + 41);
                RegisterLab x = lab(q, Arrays.copyOf(going, n));
                for (int j = 0; j <= 40; j++) {
                    due("predict(" + j + ") of " + n + " Fibonacci symbols modulo " + q, x.predict(j), going[n + j]);
                }
            }
            // The longest register there is: c1 .. are 0 for 0 .. 0 1, so that zeros follow.
            RegisterLab x = lab(q, zerosAndOne(limitOf(q)));
            due("predict(0) of zeros and a 1", x.predict(0), 0);
            due("predict(40) of zeros and a 1", x.predict(40), 0);
            // 1 0 .. 0 1, full, goes round in n - 1 steps.
            int n = limitOf(q);
            int[] far = oneAndZeros(n);
            far[n - 1] = 1;
            x = lab(q, far);
            for (int j = 0; j <= 40; j++) {
                due("predict(" + j + ") of 1 0 .. 0 1", x.predict(j), (n + j) % (n - 1) == 0 ? 1 : 0);
            }
        }
    }

    private static void predictByNoRegister() {
        for (int q : PRIMES) {
            for (int n : new int[] {0, 1, limitOf(q)}) {
                RegisterLab x = lab(q, zeros(n));
                for (int j = 0; j <= 40; j++) {
                    due("predict(" + j + ") of " + n + " zeros", x.predict(j), 0);
                }
            }
            RegisterLab x = lab(q, ones(limitOf(q)));
            x.predict(40);
            x.clear();
            due("predict(0) after clear", x.predict(0), 0);
            due("predict(40) after clear", x.predict(40), 0);
        }
    }

    private static void predictOutside() {
        for (int q : PRIMES) {
            for (int n = 0; n <= limitOf(q); n++) {
                for (RegisterLab x : new RegisterLab[] {lab(q, zeros(n)), lab(q, ones(n))}) {
                    due("whether predict(0) is there", x.predict(0) == NONE, false);
                    due("whether predict(40) is there", x.predict(40) == NONE, false);
                    for (int j : new int[] {MIN, MIN + 1, -n, -2, -1, 41, 42, 53, 256, 65536, MAX - n, MAX - 1, MAX}) {
                        if (j != 0) {
                            due("predict(" + j + ") of " + n, x.predict(j), NONE);
                        }
                    }
                }
            }
        }
    }

    private static void complexityWithBothEnds() {
        for (int q : PRIMES) {
            RegisterLab x = lab(q);
            due("complexityWith(0) of nothing", x.complexityWith(0), 0);
            due("complexityWith(q - 1) of nothing", x.complexityWith(q - 1), 1);
            x = lab(q, zeros(limitOf(q) - 1));
            due("complexityWith(0) below the limit", x.complexityWith(0), 0);
            due("complexityWith(q - 1) below the limit", x.complexityWith(q - 1), limitOf(q));
        }
    }

    private static void complexityWithAtLimit() {
        for (int q : PRIMES) {
            int n = limitOf(q);
            for (int v = 0; v < q; v++) {
                due("complexityWith(" + v + ") of zeros", lab(q, zeros(n)).complexityWith(v), v == 0 ? 0 : n + 1);
                due("complexityWith(" + v + ") of ones", lab(q, ones(n)).complexityWith(v), v == 1 ? 1 : n);
                due("complexityWith(" + v + ") of zeros and a 1", lab(q, zerosAndOne(n)).complexityWith(v), n);
                RegisterLab x = lab(q, zeros(n));
                x.complexityWith(v);
                holds(x, zeros(n));
            }
        }
    }

    private static void complexityWithWrongSymbols() {
        for (int q : PRIMES) {
            for (int n : new int[] {0, 1, limitOf(q) - 1, limitOf(q)}) {
                RegisterLab x = lab(q, ones(n));
                for (int v : wrongSymbols(q)) {
                    due("complexityWith(" + v + ") of " + n + " modulo " + q, x.complexityWith(v), NONE);
                }
            }
        }
    }

    private static void backwards() {
        for (int q : PRIMES) {
            due("complexityBackwards() of nothing", lab(q).complexityBackwards(), 0);
            due("complexityBackwards() of one 0", lab(q, 0).complexityBackwards(), 0);
            due("complexityBackwards() of one symbol", lab(q, q - 1).complexityBackwards(), 1);
            for (int n = 1; n <= limitOf(q); n++) {
                due("complexityBackwards() of zeros", lab(q, zeros(n)).complexityBackwards(), 0);
                due("complexityBackwards() of a 1 and zeros", lab(q, oneAndZeros(n)).complexityBackwards(), n);
                due("complexityBackwards() of zeros and a 1", lab(q, zerosAndOne(n)).complexityBackwards(), 1);
            }
            RegisterLab x = lab(q, zerosAndOne(limitOf(q)));
            x.clear();
            due("complexityBackwards() after clear", x.complexityBackwards(), 0);
        }
    }

    private static void holdsUntilFirstPlace() {
        for (int q : PRIMES) {
            for (int n = 1; n <= limitOf(q); n++) {
                due("holdsUntil(0) of ones", lab(q, ones(n)).holdsUntil(0), 0);
            }
            // Of 1 alone the least register is 0, so that the second 1 is wrong.
            due("holdsUntil(1) of ones", lab(q, ones(limitOf(q))).holdsUntil(1), 1);
            // Both places 2 and 4 are wrong: the first one is told.
            due("holdsUntil(1) of 1 0 1 0 1", lab(q, 1, 0, 1, 0, 1).holdsUntil(1), 2);
            due("holdsUntil(2) of 1 0 1 0 1", lab(q, 1, 0, 1, 0, 1).holdsUntil(2), 2);
        }
    }

    private static void holdsUntilLastPlace() {
        for (int q : PRIMES) {
            int n = limitOf(q);
            RegisterLab x = lab(q, zerosAndOne(n));
            for (int k = 0; k < n; k++) {
                due("holdsUntil(" + k + ") of zeros and a 1", x.holdsUntil(k), n - 1);
            }
            int[] ones = ones(n);
            ones[n - 1] = 0;
            x = lab(q, ones);
            for (int k = 2; k < n; k++) {
                due("holdsUntil(" + k + ") of ones and a 0", x.holdsUntil(k), n - 1);
            }
        }
    }

    private static void holdsUntilEnd() {
        for (int q : PRIMES) {
            due("holdsUntil(0) of nothing", lab(q).holdsUntil(0), 0);
            for (int n = 1; n <= limitOf(q); n++) {
                due("holdsUntil(length()) of zeros and a 1", lab(q, zerosAndOne(n)).holdsUntil(n), n);
                RegisterLab zeros = lab(q, zeros(n));
                RegisterLab ones = lab(q, ones(n));
                for (int k = 0; k <= n; k++) {
                    due("holdsUntil(" + k + ") of " + n + " zeros", zeros.holdsUntil(k), n);
                    if (k >= 2) {
                        due("holdsUntil(" + k + ") of " + n + " ones", ones.holdsUntil(k), n);
                    }
                }
            }
            RegisterLab x = lab(q, 0, 0, 1);
            x.drop();
            due("holdsUntil(0) when the wrong symbol was dropped", x.holdsUntil(0), 2);
        }
    }

    private static void holdsUntilOutside() {
        for (int q : PRIMES) {
            for (int n = 0; n <= limitOf(q); n++) {
                RegisterLab x = lab(q, zeros(n));
                due("holdsUntil(0)", x.holdsUntil(0), n);
                due("holdsUntil(length())", x.holdsUntil(n), n);
                for (int k : wrongPlaces(n + 1)) {
                    due("holdsUntil(" + k + ") of " + n, x.holdsUntil(k), NONE);
                }
            }
            RegisterLab x = lab(q, 0, 0);
            x.drop();
            due("holdsUntil(2) with a dropped symbol", x.holdsUntil(2), NONE);
        }
    }

    private static void refusedQuestionsChangeNothing() {
        for (int q : PRIMES) {
            for (int n : new int[] {0, 1, limitOf(q)}) {
                for (int bad : new int[] {MIN, -1, 53, 256, MAX}) {
                    refused("questions about " + bad, q, mixed(q, n), x -> {
                        due("symbol(" + bad + ")", x.symbol(bad), NONE);
                        due("complexity(" + bad + ", 0)", x.complexity(bad, 0), NONE);
                        due("complexity(0, " + bad + ")", x.complexity(0, bad), NONE);
                        due("coefficient(" + bad + ")", x.coefficient(bad), NONE);
                        due("predict(" + bad + ")", x.predict(bad), NONE);
                        due("complexityWith(" + bad + ")", x.complexityWith(bad), NONE);
                        due("holdsUntil(" + bad + ")", x.holdsUntil(bad), NONE);
                    });
                }
            }
        }
    }

    private static void questionsChangeNothing() {
        for (int q : PRIMES) {
            for (int n : new int[] {0, 1, limitOf(q) - 1, limitOf(q)}) {
                for (int which = 0; which < 12; which++) {
                    int question = which;
                    refused("question " + which + " of " + n, q, mixed(q, n), x -> ask(x, question));
                }
                refused("questions at their edges of " + n, q, mixed(q, n), x -> {
                    x.complexity(0, n);
                    x.complexity(n, n);
                    x.predict(40);
                    x.complexityWith(0);
                    x.complexityWith(q - 1);
                    x.holdsUntil(0);
                    x.holdsUntil(n);
                });
            }
        }
    }

    // ---- What the tests share

    private static void test(String name, Runnable body) {
        sentence = name;
        tests++;
        try {
            body.run();
        } catch (RuntimeException thrown) {
            wrong++;
            System.out.println(name + ": a call threw " + thrown);
        }
    }

    private static void due(String call, int got, int want) {
        if (got != want) {
            wrong++;
            System.out.println(sentence + ": " + call + " answered " + got + ", due is " + want);
        }
    }

    private static void due(String call, boolean got, boolean want) {
        due(call, got ? 1 : 0, want ? 1 : 0);
    }

    private static RegisterLab lab(int q, int... symbols) {
        RegisterLab x = new RegisterLab(q == 2 ? 0 : q == 3 ? 1 : 2);
        for (int v : symbols) {
            due("append(" + v + ") while filling modulo " + q, x.append(v), true);
        }
        return x;
    }

    /** An empty object that has answered so many calls. */
    private static RegisterLab usedUp(int q, int calls) {
        RegisterLab x = lab(q);
        for (int pair = 0; pair < calls / 2; pair++) {
            x.append(q - 1);
            x.drop();
        }
        if (calls % 2 == 1) {
            x.registers();
        }
        return x;
    }

    private static void holds(RegisterLab x, int... symbols) {
        due("length()", x.length(), symbols.length);
        for (int k = 0; k < symbols.length; k++) {
            due("symbol(" + k + ")", x.symbol(k), symbols[k]);
        }
        due("symbol(" + symbols.length + ") behind the end", x.symbol(symbols.length), NONE);
    }

    /** Makes the call on a new object and compares it with one that never had the call. */
    private static void refused(String call, int q, int[] symbols, Consumer<RegisterLab> made) {
        RegisterLab x = lab(q, symbols);
        made.accept(x);
        same(call + " on " + Arrays.toString(symbols) + " modulo " + q, x, lab(q, symbols));
    }

    private static void same(String after, RegisterLab x, RegisterLab untouched) {
        List<Integer> got = allAnswers(x);
        List<Integer> want = allAnswers(untouched);
        due("whether all is as before, after " + after + ": " + got + " for " + want, got.equals(want), true);
    }

    private static List<Integer> allAnswers(RegisterLab x) {
        List<Integer> all = new ArrayList<>();
        int n = x.length();
        int q = x.modulus();
        all.add(n);
        all.add(q);
        for (int k = -1; k <= n + 1; k++) {
            all.add(x.symbol(k));
            all.add(x.complexity(k, n));
            all.add(x.complexity(0, k));
            all.add(x.coefficient(k));
            all.add(x.holdsUntil(k));
        }
        for (int j = -1; j <= 41; j++) {
            all.add(x.predict(j));
        }
        for (int v = -1; v <= q; v++) {
            all.add(x.complexityWith(v));
        }
        all.add(x.registers());
        all.add(x.complexityBackwards());
        // Taking all away and filling up again shows what is left of the room.
        for (int k = 0; k <= n; k++) {
            all.add(x.drop());
        }
        for (int k = 0; k <= limitOf(q); k++) {
            all.add(x.append(q - 1) ? 1 : 0);
        }
        all.add(x.length());
        return all;
    }

    private static int ask(RegisterLab x, int which) {
        switch (which) {
            case 0: return x.modulus();
            case 1: return x.length();
            case 2: return x.symbol(0);
            case 3: return x.complexity(0, 5);
            case 4: return x.complexity(2, 4);
            case 5: return x.registers();
            case 6: return x.coefficient(2);
            case 7: return x.predict(0);
            case 8: return x.predict(40);
            case 9: return x.complexityWith(1);
            case 10: return x.complexityBackwards();
            default: return x.holdsUntil(3);
        }
    }

    private static int limitOf(int q) {
        return q == 2 ? 12 : q == 3 ? 7 : 5;
    }

    private static int power(int q, int exponent) {
        int result = 1;
        for (int i = 0; i < exponent; i++) {
            result *= q;
        }
        return result;
    }

    // 256 and 65536 would be 0 to a program that keeps a byte or a short, multiples of q to one
    // that takes remainders.
    private static int[] wrongSymbols(int q) {
        return new int[] {MIN, MIN + 1, -65536, -256, -2 * q, -q, -2, -1,
            q, q + 1, 2 * q, 6 * q, 256, 257, 65536, MAX - 1, MAX};
    }

    /** Places that are not 0 .. n - 1, the nearest ones and those inside the greatest limit among them. */
    private static int[] wrongPlaces(int n) {
        return new int[] {MIN, MIN + 1, MIN + n, -65536, -256, -n - 1, -2, -1,
            n, n + 1, Math.max(n, 11), Math.max(n, 12), Math.max(n, 13), 53, 256, 65536, MAX - n, MAX - 1, MAX};
    }

    private static int[] zeros(int n) {
        return new int[n];
    }

    private static int[] ones(int n) {
        int[] symbols = new int[n];
        Arrays.fill(symbols, 1);
        return symbols;
    }

    private static int[] zerosAndOne(int n) {
        int[] symbols = new int[n];
        symbols[n - 1] = 1;
        return symbols;
    }

    private static int[] oneAndZeros(int n) {
        int[] symbols = new int[n];
        symbols[0] = 1;
        return symbols;
    }

    private static int[] fibonacci(int q, int n) {
        int[] symbols = new int[n];
        symbols[1] = 1;
        for (int k = 2; k < n; k++) {
            symbols[k] = (symbols[k - 1] + symbols[k - 2]) % q;
        }
        return symbols;
    }

    /** Symbols without a plain rule: 1 q-1 0 1 .. */
    private static int[] mixed(int q, int n) {
        int[] pattern = {1, q - 1, 0, 1, 0, 0, q - 1, 1, 1, 0, 1, 1};
        return Arrays.copyOf(pattern, n);
    }
}
