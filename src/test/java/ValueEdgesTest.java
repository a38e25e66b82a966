/** Promise 9, and the Terms of ROOT and AMPLITUDE: each sentence that names a boundary case has a test of its own. */
public final class ValueEdgesTest {
    private static final Checks CHECKS = new Checks();
    private static final int LEAST = Integer.MIN_VALUE;
    private static final int MOST = Integer.MAX_VALUE;
    private static final String NO_SUCH = "throws.NoSuchElementException";
    private static final String TOO_MANY = "throws.ArithmeticException";
    private static final String ZERO = "0 0 0 0 0";

    public static void main(String[] args) {
        noSuchPart();
        noSuchOutput();
        noSuchInput();
        inputCountsForNothing();
        moreThanTwelve();
        inputsAreNotCounted();
        bitsThatAreGoneAreNotCounted();
        bitsInValuesAreCounted();
        askedBehindThat();
        throwsChangeNothing();
        emptyAnswersZero();
        emptyBehindManyBits();
        emptyStillThrows();
        ofZeroAllAreZero();
        theLeastK();
        kIsZeroOrMore();
        theEighthRoots();
        partsBelowZero();
        mostWays();
        productsOfThree();
        begunInBetween();
        noBitsAtAll();
        inputsAsTheInputTells();
        onlyTheOutputsWays();
        CHECKS.end();
    }

    private static PathSums withBits(String begun, int bits) {
        PathSums x = Sums.of(CHECKS, begun);
        Sums.times(CHECKS, x, bits, "10 0");
        return x;
    }

    private static void noSuchPart() {
        CHECKS.sentence("Promise 9: NoSuchElementException: there is no such part");
        for (String begun : new String[]{"begin 2 1", "open 2"}) {
            PathSums x = Sums.of(CHECKS, begun);
            for (int part = 0; part <= 4; part++) {
                CHECKS.due(begun + ", part " + part, Checks.part(x, 1, 1, part), part == 0 ? "1" : "0");
            }
            for (int part : new int[]{-1, -2, 5, 6, 32, LEAST, MOST}) {
                CHECKS.due(begun + ", part " + part, Checks.part(x, 1, 1, part), NO_SUCH);
            }
        }
    }

    private static void noSuchOutput() {
        CHECKS.sentence("Promise 9: NoSuchElementException: there is no such output");
        PathSums x = new PathSums();
        for (int n = 1; n <= 6; n++) {
            int last = (1 << n) - 1;
            for (String begun : new String[]{"begin " + n + " " + last, "open " + n}) {
                Sums.go(CHECKS, x, begun);
                CHECKS.due(begun + ", the last", Checks.part(x, last, last, 0), "1");
                CHECKS.due(begun + ", the first", Checks.part(x, last, 0, 0), "0");
                for (int output : new int[]{-1, last + 1, last + 2, 64, 1 << 24, LEAST, MOST}) {
                    CHECKS.due(begun + ", output " + output, Checks.part(x, 0, output, 0), NO_SUCH);
                }
            }
        }
    }

    private static void noSuchInput() {
        CHECKS.sentence("Promise 9: NoSuchElementException: there is no such input");
        PathSums x = new PathSums();
        for (int n = 1; n <= 6; n++) {
            Sums.go(CHECKS, x, "open " + n);
            int last = (1 << n) - 1;
            CHECKS.due(n + " WIRES, the first", Checks.part(x, 0, 0, 0), "1");
            CHECKS.due(n + " WIRES, the last", Checks.part(x, last, last, 0), "1");
            for (int input : new int[]{-1, last + 1, last + 2, 64, 1 << 24, LEAST, MOST}) {
                CHECKS.due(n + " WIRES, input " + input, Checks.part(x, input, 0, 0), NO_SUCH);
            }
        }
    }

    private static void inputCountsForNothing() {
        CHECKS.sentence("Promise 9: input counts for nothing if it was BEGUN with a START");
        PathSums x = Sums.of(CHECKS, "begin 2 1", "10 0", "10 1");
        for (int input : new int[]{0, 1, 2, 3, 4, -1, 64, LEAST, MOST}) {
            CHECKS.due("input " + input, Checks.amplitude(x, input, 3), "-1 0 0 0 2");
        }
        Sums.go(CHECKS, x, "open 2", "begin 2 1");
        CHECKS.due("behind one that was open", Checks.amplitude(x, 4, 1), "1 0 0 0 0");
    }

    private static void moreThanTwelve() {
        CHECKS.sentence("Promise 9: ArithmeticException: more than 12 BITS that are no INPUTS are there");
        CHECKS.due("12 BITS", Checks.amplitude(withBits("begin 1 1", 12), 0, 1), "1 0 0 0 0");
        for (int bits : new int[]{13, 14, 23, 24}) {
            PathSums x = withBits("begin 1 1", bits);
            for (int part = 0; part <= 4; part++) {
                CHECKS.due(bits + " BITS, part " + part, Checks.part(x, 0, 1, part), TOO_MANY);
            }
        }
    }

    private static void inputsAreNotCounted() {
        CHECKS.sentence("Promise 9: more than 12 BITS that are no INPUTS: INPUTS do not count");
        for (int n = 1; n <= 6; n++) {
            int last = (1 << n) - 1;
            PathSums x = withBits("open " + n, 12);
            CHECKS.due(n + " INPUTS and 12", Checks.amplitude(x, last, last), "1 0 0 0 0");
            Sums.go(CHECKS, x, "10 0");
            CHECKS.due(n + " INPUTS and 13", Checks.part(x, last, last, 0), TOO_MANY);
        }
    }

    private static void bitsThatAreGoneAreNotCounted() {
        CHECKS.sentence("Promise 9: more than 12 BITS are there: those that are gone do not count");
        PathSums x = withBits("begin 1 1", 23);
        CHECKS.due("23 BITS", Checks.part(x, 0, 1, 0), TOO_MANY);
        CHECKS.due("reduce()", x.reduce(), 11);
        CHECKS.due("one is there", Checks.amplitude(x, 0, 1), "-1 0 0 0 1");
    }

    private static void bitsInValuesAreCounted() {
        CHECKS.sentence("Promise 9: more than 12 BITS are there: those in VALUES count, too");
        PathSums x = Sums.of(CHECKS, "begin 6 0");
        for (int i = 0; i < 12; i++) {
            Sums.go(CHECKS, x, "10 0", "1 " + (1 + i % 5) + " 0");
        }
        CHECKS.due("12 BITS", Checks.part(x, 0, 0, 0).contains("throws"), false);
        Sums.go(CHECKS, x, "10 5");
        CHECKS.due("13 BITS", Checks.part(x, 0, 0, 0), TOO_MANY);
    }

    private static void askedBehindThat() {
        CHECKS.sentence("Promise 9: ArithmeticException (asked behind that)");
        PathSums x = withBits("open 2", 13);
        CHECKS.due("all is well", Checks.part(x, 0, 0, 0), TOO_MANY);
        CHECKS.due("no such input", Checks.part(x, 4, 0, 0), NO_SUCH);
        CHECKS.due("no such output", Checks.part(x, 0, 4, 0), NO_SUCH);
        CHECKS.due("no such part", Checks.part(x, 0, 0, 5), NO_SUCH);
        CHECKS.due("none of them", Checks.part(x, -1, -1, -1), NO_SUCH);
        x = withBits("begin 2 0", 13);
        CHECKS.due("any input", Checks.part(x, 4, 0, 0), TOO_MANY);
        CHECKS.due("no such output", Checks.part(x, 0, 4, 0), NO_SUCH);
    }

    private static void throwsChangeNothing() {
        CHECKS.sentence("Promise 9: the AMPLITUDE: neither an answer nor an exception changes what is shown");
        PathSums x = withBits("open 2", 12);
        String before = Checks.shown(x);
        CHECKS.due("an exception", Checks.part(x, 4, 0, 0), NO_SUCH);
        CHECKS.due("another output", Checks.amplitude(x, 3, 1), ZERO);
        CHECKS.due("what it shows", Checks.shown(x), before);
        Sums.go(CHECKS, x, "10 0");
        before = Checks.shown(x);
        CHECKS.due("an exception", Checks.part(x, 0, 0, 0), TOO_MANY);
        CHECKS.due("what it shows", Checks.shown(x), before);
    }

    private static void emptyAnswersZero() {
        CHECKS.sentence("Promise 9: 2: all AMPLITUDES are 0 (the SUM is EMPTY)");
        for (int input = 0; input < 4; input++) {
            for (int output = 0; output < 4; output++) {
                CHECKS.due("open, from " + input + " to " + output, Checks.amplitude(Sums.emptyOpen(CHECKS), input, output), ZERO);
            }
        }
        PathSums x = Sums.empty(CHECKS);
        for (int output = 0; output < 8; output++) {
            CHECKS.due("to " + output, Checks.amplitude(x, 0, output), ZERO);
        }
    }

    private static void emptyBehindManyBits() {
        CHECKS.sentence("Promise 9: more than 12 BITS are there: of an EMPTY SUM none");
        PathSums x = withBits("begin 2 2", 20);
        Sums.go(CHECKS, x, "11 1");
        CHECKS.due("before", Checks.part(x, 0, 0, 0), TOO_MANY);
        Sums.go(CHECKS, x, "reduce");
        CHECKS.due("EMPTY", x.total(5), 1);
        CHECKS.due("behind it", Checks.amplitude(x, 0, 0), ZERO);
        CHECKS.due("to its constants", Checks.amplitude(x, 0, 2), ZERO);
    }

    private static void emptyStillThrows() {
        CHECKS.sentence("Promise 9: NoSuchElementException: of an EMPTY SUM, too");
        PathSums x = Sums.emptyOpen(CHECKS);
        CHECKS.due("input 4", Checks.part(x, 4, 0, 0), NO_SUCH);
        CHECKS.due("input -1", Checks.part(x, -1, 0, 0), NO_SUCH);
        CHECKS.due("output 4", Checks.part(x, 0, 4, 0), NO_SUCH);
        CHECKS.due("part 5", Checks.part(x, 0, 0, 5), NO_SUCH);
        CHECKS.due("part -1", Checks.part(x, 0, 0, -1), NO_SUCH);
        CHECKS.due("with a START, output 8", Checks.part(Sums.empty(CHECKS), 0, 8, 0), NO_SUCH);
    }

    private static void ofZeroAllAreZero() {
        CHECKS.sentence("Promise 9: a ROOT: of 0 all are 0");
        CHECKS.due("no way", Checks.amplitude(new PathSums(), 0, 1), ZERO);
        CHECKS.due("1 - 1 over r^2", Checks.amplitude(withBits("begin 1 0", 2), 0, 1), ZERO);
        CHECKS.due("no way, over r^1", Checks.amplitude(Sums.of(CHECKS, "begin 2 0", "10 0"), 0, 2), ZERO);
        CHECKS.due("1 - 1 over r^12", Checks.amplitude(withBits("begin 1 0", 12), 0, 1), ZERO);
        CHECKS.due("what is measured, over r^2", Checks.amplitude(Sums.of(CHECKS, "12 0"), 0, 0), ZERO);
    }

    private static void theLeastK() {
        CHECKS.sentence("Promise 9: a ROOT: whole a, b, c, d and the least k");
        CHECKS.due("2 / r^2", Checks.amplitude(withBits("begin 1 0", 2), 0, 0), "1 0 0 0 0");
        CHECKS.due("2 / r^3", Checks.amplitude(withBits("begin 1 0", 3), 0, 0), "1 0 0 0 1");
        CHECKS.due("4 / r^5", Checks.amplitude(withBits("begin 1 0", 5), 0, 1), "1 0 0 0 1");
        PathSums x = Sums.of(CHECKS, "10 0", "4 0", "10 0");
        CHECKS.due("(1 + w^2) / r^2", Checks.amplitude(x, 0, 0), "0 1 0 0 1");
        CHECKS.due("(1 - w^2) / r^2", Checks.amplitude(x, 0, 1), "0 0 0 -1 1");
        x = Sums.of(CHECKS, "10 0", "5 0", "10 0");
        CHECKS.due("(1 + w) / r^2: no less", Checks.amplitude(x, 0, 0), "1 1 0 0 2");
        CHECKS.due("(1 - w) / r^2: no less", Checks.amplitude(x, 0, 1), "1 -1 0 0 2");
        x = Sums.of(CHECKS, "begin 2 0", "10 0", "10 1", "4 0", "4 1", "8 0 1", "10 0", "10 1");
        // (1 + 2w^2 - w^4) / r^4 = (2 + 2w^2) / r^4 = (1 + w^2) / r^2
        CHECKS.due("(2 + 2w^2) / r^4", Checks.amplitude(x, 0, 0), "0 1 0 0 1");
    }

    private static void kIsZeroOrMore() {
        CHECKS.sentence("Promise 9: a ROOT: k, 0 or more");
        PathSums x = Sums.of(CHECKS, "open 1");
        Sums.times(CHECKS, x, 12, "11 0");
        CHECKS.due("4096 / r^24", Checks.amplitude(x, 0, 0), "1 0 0 0 0");
        x = withBits("begin 1 0", 12);
        CHECKS.due("64 / r^12", Checks.amplitude(x, 0, 0), "1 0 0 0 0");
        Sums.go(CHECKS, x, "reduce");
        CHECKS.due("1 / r^0", Checks.amplitude(x, 0, 0), "1 0 0 0 0");
    }

    private static void theEighthRoots() {
        CHECKS.sentence("Promise 9: w^(the POLYNOMIAL's value): w^4 = -1, w^8 is 1");
        String[] due = {"1 0 0 0 0", "0 1 0 0 0", "0 0 1 0 0", "0 0 0 1 0", "-1 0 0 0 0", "0 -1 0 0 0", "0 0 -1 0 0", "0 0 0 -1 0"};
        PathSums x = Sums.of(CHECKS, "begin 1 1");
        PathSums y = Sums.of(CHECKS, "open 2", "1 0 1");
        for (int i = 0; i <= 16; i++) {
            CHECKS.due("w^" + i, Checks.amplitude(x, 0, 1), due[i % 8]);
            CHECKS.due("w^" + i + ", open", Checks.amplitude(y, 1, 1), due[i % 8]);
            CHECKS.due("w^" + i + ", open", Checks.amplitude(y, 2, 3), due[i % 8]);
            CHECKS.due("w^0, open", Checks.amplitude(y, 3, 2), due[0]);
            Sums.go(CHECKS, x, "5 0");
            Sums.go(CHECKS, y, "5 0");
        }
    }

    private static void partsBelowZero() {
        CHECKS.sentence("Promise 9: part 0 .. 3: a to d: whole, below 0, too");
        PathSums x = Sums.of(CHECKS, "begin 6 0");
        for (int i = 0; i < 6; i++) {
            Sums.go(CHECKS, x, "10 " + i, "5 " + i, "10 " + i);
        }
        // (1 + w)^6 / r^12 = (-14 + 14w^2 + 20w^3) / r^12 = (-5 + 5w^2 + 7w^3) / r^9
        CHECKS.due("(1 + w)^6 / r^12", Checks.amplitude(x, 0, 0), "-5 0 5 7 9");
    }

    private static void mostWays() {
        CHECKS.sentence("Promise 9: over all ways to give the BITS that are there 0 or 1: 2^12 at most");
        PathSums x = Sums.of(CHECKS, "begin 6 0");
        for (int turn = 0; turn < 2; turn++) {
            for (int i = 0; i < 6; i++) {
                Sums.go(CHECKS, x, "10 " + i);
            }
        }
        CHECKS.due("to 0", Checks.amplitude(x, 0, 0), "1 0 0 0 0");
        for (int i = 0; i < 6; i++) {
            CHECKS.due("to " + (1 << i), Checks.amplitude(x, 0, 1 << i), ZERO);
        }
        Sums.go(CHECKS, x, "begin 1 0");
        Sums.times(CHECKS, x, 11, "10 0");
        Sums.go(CHECKS, x, "5 0", "10 0");
        CHECKS.due("the last BIT counts, to 0", Checks.amplitude(x, 0, 0), "1 1 0 0 2");
        CHECKS.due("the last BIT counts, to 1", Checks.amplitude(x, 0, 1), "1 -1 0 0 2");
    }

    private static void productsOfThree() {
        CHECKS.sentence("Promise 9: w^(the POLYNOMIAL's value): products of at most three different BITS");
        PathSums x = Sums.of(CHECKS, "begin 3 0", "10 0", "10 1", "10 2", "9 0 1 2", "10 0", "10 1", "10 2");
        // seven ways with 1, one with -1
        CHECKS.due("6 / r^6", Checks.amplitude(x, 0, 0), "3 0 0 0 4");
        CHECKS.due("2 / r^6", Checks.amplitude(x, 0, 1), "1 0 0 0 4");
        CHECKS.due("-2 / r^6", Checks.amplitude(x, 0, 3), "-1 0 0 0 4");
        CHECKS.due("2 / r^6", Checks.amplitude(x, 0, 7), "1 0 0 0 4");
    }

    private static void begunInBetween() {
        CHECKS.sentence("Promise 9: the BITS that are there: those of a SUM of before count for nothing");
        PathSums x = Sums.of(CHECKS, "begin 1 0", "10 0", "5 0", "10 0");
        CHECKS.due("two BITS", Checks.amplitude(x, 0, 0), "1 1 0 0 2");
        Sums.go(CHECKS, x, "open 2", "5 0", "8 0 1", "10 0");
        CHECKS.due("BITS 0 and 1 are INPUTS, 3 to 2", Checks.amplitude(x, 3, 2), "0 -1 0 0 1");
        CHECKS.due("BITS 0 and 1 are INPUTS, 3 to 3", Checks.amplitude(x, 3, 3), "0 1 0 0 1");
        Sums.go(CHECKS, x, "begin 1 1", "10 0");
        CHECKS.due("BIT 0 is one again", Checks.amplitude(x, 0, 1), "-1 0 0 0 1");
    }

    private static void noBitsAtAll() {
        CHECKS.sentence("Promise 9: over all ways: of no BITS there is one way");
        PathSums x = Sums.of(CHECKS, "begin 6 42", "5 1");
        for (int output = 0; output < 64; output++) {
            CHECKS.due("to " + output, Checks.amplitude(x, 0, output), output == 42 ? "0 1 0 0 0" : ZERO);
        }
    }

    private static void inputsAsTheInputTells() {
        CHECKS.sentence("Promise 9: INPUTS as the input tells");
        PathSums x = Sums.of(CHECKS, "open 3", "5 0", "4 1", "3 2", "9 0 1 2");
        String[] due = {"1 0 0 0 0", "0 1 0 0 0", "0 0 1 0 0", "0 0 0 1 0", "-1 0 0 0 0", "0 -1 0 0 0", "0 0 -1 0 0", "0 0 0 1 0"};
        for (int input = 0; input < 8; input++) {
            for (int output = 0; output < 8; output++) {
                CHECKS.due("from " + input + " to " + output, Checks.amplitude(x, input, output), input == output ? due[input] : ZERO);
            }
        }
        x = Sums.of(CHECKS, "open 2", "10 0", "8 0 1");
        CHECKS.due("INPUTS in no VALUE, 0 to 1", Checks.amplitude(x, 0, 1), "1 0 0 0 1");
        CHECKS.due("INPUTS in no VALUE, 1 to 1", Checks.amplitude(x, 1, 1), "-1 0 0 0 1");
        CHECKS.due("INPUTS in no VALUE, 3 to 3", Checks.amplitude(x, 3, 3), "1 0 0 0 1");
    }

    private static void onlyTheOutputsWays() {
        CHECKS.sentence("Promise 9: by which the WIRES' VALUES are those of the output");
        PathSums x = Sums.of(CHECKS, "begin 3 4", "10 0", "1 1 0", "0 1");
        String[] due = {ZERO, ZERO, ZERO, ZERO, ZERO, "1 0 0 0 1", "1 0 0 0 1", ZERO};
        for (int output = 0; output < 8; output++) {
            CHECKS.due("to " + output, Checks.amplitude(x, 0, output), due[output]);
        }
    }
}
