/** Promise 9: value. */
public final class ValueTest {
    private static final Checks CHECKS = new Checks();
    private static final String NO_SUCH = "throws.NoSuchElementException";
    private static final String TOO_MANY = "throws.ArithmeticException";

    public static void main(String[] args) {
        phases();
        theLeastRoot();
        theRootOfManyWays();
        wrongArguments();
        theInputCountsForNothing();
        tooManyBits();
        wrongArgumentsBeforeTooManyBits();
        inputsDoNotCount();
        bitsThatWentDoNotCount();
        empty();
        manyDearCalls();
        CHECKS.end();
    }

    private static void phases() {
        PathSums x = new PathSums();
        x.begin(1, 1);
        String[] due = {"1 0 0 0 0", "0 1 0 0 0", "0 0 1 0 0", "0 0 0 1 0", "-1 0 0 0 0", "0 -1 0 0 0", "0 0 -1 0 0", "0 0 0 -1 0"};
        for (int i = 0; i < 16; i++) {
            CHECKS.due("w^" + i, Checks.amplitude(x, 0, 1), due[i % 8]);
            CHECKS.due("w^" + i + ", elsewhere", Checks.amplitude(x, 0, 0), "0 0 0 0 0");
            CHECKS.gates(x, new int[]{5, 0, 0, 0});
        }
    }

    private static void theLeastRoot() {
        PathSums x = new PathSums();
        CHECKS.gates(x, new int[]{10, 0, 0, 0});
        CHECKS.due("1 / r", Checks.amplitude(x, 0, 0), "1 0 0 0 1");
        CHECKS.due("1 / r", Checks.amplitude(x, 0, 1), "1 0 0 0 1");
        CHECKS.gates(x, new int[]{4, 0, 0, 0}, new int[]{10, 0, 0, 0});
        // (1 + w^2) / 2 = w * r / 2 = w / r
        CHECKS.due("w / r", Checks.amplitude(x, 0, 0), "0 1 0 0 1");
        // (1 - w^2) / 2 = w^7 / r = -w^3 / r
        CHECKS.due("-w^3 / r", Checks.amplitude(x, 0, 1), "0 0 0 -1 1");
        x.begin(1, 0);
        CHECKS.gates(x, new int[]{10, 0, 0, 0}, new int[]{5, 0, 0, 0}, new int[]{10, 0, 0, 0});
        CHECKS.due("(1 + w) / r^2", Checks.amplitude(x, 0, 0), "1 1 0 0 2");
        CHECKS.due("(1 - w) / r^2", Checks.amplitude(x, 0, 1), "1 -1 0 0 2");
        x.begin(1, 0);
        CHECKS.gates(x, new int[]{10, 0, 0, 0}, new int[]{10, 0, 0, 0});
        CHECKS.due("2 / r^2 is 1", Checks.amplitude(x, 0, 0), "1 0 0 0 0");
        CHECKS.due("of 0 all are 0", Checks.amplitude(x, 0, 1), "0 0 0 0 0");
        x.begin(1, 0);
        CHECKS.gates(x, new int[]{10, 0, 0, 0}, new int[]{10, 0, 0, 0}, new int[]{10, 0, 0, 0});
        CHECKS.due("2 / r^3 is 1 / r", Checks.amplitude(x, 0, 1), "1 0 0 0 1");
    }

    private static void theRootOfManyWays() {
        PathSums x = new PathSums();
        x.begin(6, 0);
        for (int i = 0; i < 6; i++) {
            CHECKS.gates(x, new int[]{10, i, 0, 0});
        }
        for (int i = 0; i < 6; i++) {
            CHECKS.gates(x, new int[]{10, i, 0, 0});
        }
        CHECKS.due("h twice of six WIRES, 12 BITS", Checks.amplitude(x, 0, 0), "1 0 0 0 0");
        CHECKS.due("to 63", Checks.amplitude(x, 0, 63), "0 0 0 0 0");
        x.begin(6, 0);
        for (int i = 0; i < 6; i++) {
            CHECKS.gates(x, new int[]{10, i, 0, 0}, new int[]{5, i, 0, 0}, new int[]{10, i, 0, 0});
        }
        // (1 + w)^6 / r^12 = (1 + 6w + 15w^2 + 20w^3 - 15 - 6w - w^2) / r^12 = (-14 + 14w^2 + 20w^3) / r^12
        // = (-7 + 7w^2 + 10w^3) / r^10 = (-5 + 5w^2 + 7w^3) / r^9, for (-5 + 5w^2 + 7w^3) * r = -7 + 7w^2 + 10w^3
        CHECKS.due("(1 + w)^6 / r^12", Checks.amplitude(x, 0, 0), "-5 0 5 7 9");
    }

    private static void wrongArguments() {
        PathSums x = new PathSums();
        for (int wires = 1; wires <= 6; wires++) {
            x.open(wires);
            int last = (1 << wires) - 1;
            CHECKS.due("the last input and output", Checks.part(x, last, last, 4), "0");
            for (int wrong : new int[]{-1, last + 1, 64, 1 << 24, Integer.MIN_VALUE, Integer.MAX_VALUE}) {
                CHECKS.due(wires + " WIRES, input " + wrong, Checks.part(x, wrong, 0, 0), NO_SUCH);
                CHECKS.due(wires + " WIRES, output " + wrong, Checks.part(x, 0, wrong, 0), NO_SUCH);
            }
            for (int part : new int[]{-1, 5, 6, Integer.MIN_VALUE, Integer.MAX_VALUE}) {
                CHECKS.due(wires + " WIRES, part " + part, Checks.part(x, 0, 0, part), NO_SUCH);
            }
            x.begin(wires, last);
            for (int wrong : new int[]{-1, last + 1, Integer.MIN_VALUE, Integer.MAX_VALUE}) {
                CHECKS.due(wires + " WIRES with a START, output " + wrong, Checks.part(x, 0, wrong, 0), NO_SUCH);
            }
            CHECKS.due(wires + " WIRES with a START, part 5", Checks.part(x, 0, 0, 5), NO_SUCH);
        }
    }

    private static void theInputCountsForNothing() {
        PathSums x = new PathSums();
        x.begin(2, 1);
        CHECKS.gates(x, new int[]{10, 0, 0, 0}, new int[]{10, 1, 0, 0});
        for (int input : new int[]{0, 1, 2, 3, 4, -1, Integer.MIN_VALUE, Integer.MAX_VALUE}) {
            CHECKS.due("input " + input, Checks.amplitude(x, input, 3), "-1 0 0 0 2");
        }
        x.open(2);
        CHECKS.gates(x, new int[]{10, 0, 0, 0}, new int[]{8, 0, 1, 0});
        CHECKS.due("open, 0 to 1", Checks.amplitude(x, 0, 1), "1 0 0 0 1");
        CHECKS.due("open, 1 to 1", Checks.amplitude(x, 1, 1), "-1 0 0 0 1");
        CHECKS.due("open, 2 to 3", Checks.amplitude(x, 2, 3), "-1 0 0 0 1");
        CHECKS.due("open, 3 to 3", Checks.amplitude(x, 3, 3), "1 0 0 0 1");
        CHECKS.due("open, 3 to 1", Checks.amplitude(x, 3, 1), "0 0 0 0 0");
    }

    private static PathSums withBits(boolean open, int wires, int bits) {
        PathSums x = new PathSums();
        CHECKS.due("begun", open ? x.open(wires) : x.begin(wires, 0), true);
        for (int i = 0; i < bits; i++) {
            CHECKS.gates(x, new int[]{10, 0, 0, 0});
        }
        return x;
    }

    private static void tooManyBits() {
        PathSums x = withBits(false, 1, 12);
        CHECKS.due("12 BITS", Checks.amplitude(x, 0, 0), "1 0 0 0 0");
        x = withBits(false, 1, 13);
        for (int part = 0; part < 5; part++) {
            CHECKS.due("13 BITS, part " + part, Checks.part(x, 0, 0, part), TOO_MANY);
        }
        x = withBits(false, 1, 24);
        CHECKS.due("24 BITS", Checks.part(x, 0, 1, 4), TOO_MANY);
    }

    private static void wrongArgumentsBeforeTooManyBits() {
        PathSums x = withBits(true, 2, 13);
        CHECKS.due("13 BITS, all is well", Checks.part(x, 0, 0, 0), TOO_MANY);
        CHECKS.due("13 BITS, input 4", Checks.part(x, 4, 0, 0), NO_SUCH);
        CHECKS.due("13 BITS, output 4", Checks.part(x, 0, 4, 0), NO_SUCH);
        CHECKS.due("13 BITS, part 5", Checks.part(x, 0, 0, 5), NO_SUCH);
        CHECKS.due("13 BITS, part -1", Checks.part(x, 0, 0, -1), NO_SUCH);
    }

    private static void inputsDoNotCount() {
        PathSums x = withBits(true, 6, 12);
        CHECKS.due("18 BITS are there", Integer.bitCount(x.total(1)), 18);
        CHECKS.due("6 INPUTS and 12 more, 63 to 63", Checks.amplitude(x, 63, 63), "1 0 0 0 0");
        CHECKS.due("6 INPUTS and 12 more, 63 to 62", Checks.amplitude(x, 63, 62), "0 0 0 0 0");
        CHECKS.gates(x, new int[]{10, 5, 0, 0});
        CHECKS.due("6 INPUTS and 13 more", Checks.part(x, 63, 63, 0), TOO_MANY);
    }

    private static void bitsThatWentDoNotCount() {
        PathSums x = withBits(true, 1, 23);
        CHECKS.due("too many", Checks.part(x, 1, 1, 0), TOO_MANY);
        CHECKS.due("reduce()", x.reduce(), 11);
        CHECKS.due("h of 1", Checks.amplitude(x, 1, 1), "-1 0 0 0 1");
        CHECKS.due("h of 0", Checks.amplitude(x, 0, 1), "1 0 0 0 1");
    }

    private static void empty() {
        PathSums x = new PathSums();
        x.open(2);
        CHECKS.gates(x, new int[]{10, 0, 0, 0}, new int[]{11, 0, 0, 0}, new int[]{12, 0, 0, 0});
        for (int turn = 0; turn < 2; turn++) {
            for (int input = 0; input < 4; input++) {
                for (int output = 0; output < 4; output++) {
                    CHECKS.due("no way from " + input + " to " + output, Checks.amplitude(x, input, output), "0 0 0 0 0");
                }
            }
            CHECKS.due("reduce()", x.reduce(), turn == 0 ? 2 : 0);
            CHECKS.due("EMPTY", x.total(5), 1);
        }
        CHECKS.due("EMPTY, input 4", Checks.part(x, 4, 0, 0), NO_SUCH);
        CHECKS.due("EMPTY, output 4", Checks.part(x, 0, 4, 0), NO_SUCH);
        CHECKS.due("EMPTY, part 5", Checks.part(x, 0, 0, 5), NO_SUCH);
    }

    /** Some 500 of the dearest calls: what one of them leaves in the rows does not touch the next. */
    private static void manyDearCalls() {
        PathSums x = withBits(true, 6, 12);
        for (int i = 1; i < 6; i++) {
            CHECKS.gates(x, new int[]{1, 0, i, 0}, new int[]{5, 0, 0, 0});
        }
        String first = Checks.amplitude(x, 63, 1);
        for (int i = 0; i < 100; i++) {
            CHECKS.due("the same again", Checks.amplitude(x, 63, 1), first);
        }
    }
}
