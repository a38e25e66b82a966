/** Promises 1, 2 and 3, and "What it is": each sentence that names a boundary case has a test of its own. */
public final class StartEdgesTest {
    private static final Checks CHECKS = new Checks();
    private static final int LEAST = Integer.MIN_VALUE;
    private static final int MOST = Integer.MAX_VALUE;
    /** 32 .. 38 would be 0 .. 6 for a shift. */
    private static final int[] NO_N = {0, -1, -2, -31, 7, 8, 31, 32, 33, 34, 38, 64, 65, LEAST, LEAST + 1, MOST};
    private static final String NEW_STATE =
            "1 0 0 0 0 0 0 h 0 wire 0+0 wire -1+-1 wire -1+-1 wire -1+-1 wire -1+-1 wire -1+-1 terms";

    public static void main(String[] args) {
        aNewObject();
        beginLeastAndMostWires();
        beginLeastAndMostStart();
        beginNoSuchN();
        beginNoSuchStart();
        beginRefusedChangesNothing();
        beginWireIsBit();
        beginNothingIsLeft();
        beginBehindEmpty();
        beginBehindFull();
        openLeastAndMost();
        openAnotherN();
        openRefusedChangesNothing();
        openInputIsValue();
        openNothingIsLeft();
        openBehindEmptyAndFull();
        fiveHundredAndTwelveCalls();
        CHECKS.end();
    }

    private static void aNewObject() {
        CHECKS.sentence("Promise 1: BEGUN with the START 0 of one WIRE");
        PathSums x = new PathSums();
        CHECKS.due("state", Checks.state(x), NEW_STATE);
        CHECKS.due("from 0 to 0", Checks.amplitude(x, 0, 0), "1 0 0 0 0");
        CHECKS.due("from 0 to 1", Checks.amplitude(x, 0, 1), "0 0 0 0 0");
        CHECKS.due("to 2, which one WIRE has not", Checks.part(x, 0, 2, 0), "throws.NoSuchElementException");
        CHECKS.due("a START: from -1 to 0", Checks.amplitude(x, -1, 0), "1 0 0 0 0");
        CHECKS.due("a gate on its one WIRE", x.gate(0, 0, 0, 0), true);
        CHECKS.refusedGate(x, 0, 1, 0, 0);
        CHECKS.due("the same as begin(1, 0)", Checks.shown(new PathSums()), Checks.shown(Sums.of(CHECKS, "begin 1 0")));
    }

    private static void beginLeastAndMostWires() {
        CHECKS.sentence("Promise 2: N WIRES (1 .. 6): true");
        for (int n = 1; n <= 6; n++) {
            PathSums x = Sums.of(CHECKS, "begin " + n + " 0");
            CHECKS.due(n + " WIRES, total(0)", x.total(0), n);
            CHECKS.due(n + " WIRES, the last one", x.wire(n - 1, 0), 0);
            CHECKS.due(n + " WIRES, one more", x.wire(n, 0), PathSums.NONE);
        }
    }

    private static void beginLeastAndMostStart() {
        CHECKS.sentence("Promise 2: a START: the least and the greatest of each N: true");
        PathSums x = new PathSums();
        for (int n = 1; n <= 6; n++) {
            CHECKS.due("begin(" + n + ", 0)", x.begin(n, 0), true);
            CHECKS.due("to 0", Checks.amplitude(x, 0, 0), "1 0 0 0 0");
            int last = (1 << n) - 1;
            CHECKS.due("begin(" + n + ", " + last + ")", x.begin(n, last), true);
            CHECKS.due("to the last", Checks.amplitude(x, 0, last), "1 0 0 0 0");
        }
    }

    private static void beginNoSuchN() {
        CHECKS.sentence("Promise 2: false if there are no such N");
        PathSums x = new PathSums();
        for (int n : NO_N) {
            for (int start : new int[]{0, 1, -1, 2, MOST, LEAST}) {
                CHECKS.due("begin(" + n + ", " + start + ")", x.begin(n, start), false);
            }
        }
    }

    private static void beginNoSuchStart() {
        CHECKS.sentence("Promise 2: false if there are no such START");
        PathSums x = new PathSums();
        for (int n = 1; n <= 6; n++) {
            for (int start : new int[]{-1, -2, 1 << n, (1 << n) + 1, 2 << n, 64, 1 << 30, MOST, LEAST, LEAST + 1}) {
                CHECKS.due("begin(" + n + ", " + start + ")", x.begin(n, start), false);
            }
        }
    }

    private static PathSums[] ofEachSort() {
        return new PathSums[]{new PathSums(), Sums.used(CHECKS), Sums.empty(CHECKS), Sums.emptyOpen(CHECKS),
            Sums.of(CHECKS, "begin 6 63", "10 0", "5 0")};
    }

    private static void beginRefusedChangesNothing() {
        CHECKS.sentence("Promise 2: false, changing nothing");
        for (PathSums x : ofEachSort()) {
            CHECKS.refused("begin(0, 0)", x, y -> y.begin(0, 0));
            CHECKS.refused("begin(7, 0)", x, y -> y.begin(7, 0));
            CHECKS.refused("begin(1, 2)", x, y -> y.begin(1, 2));
            CHECKS.refused("begin(6, 64)", x, y -> y.begin(6, 64));
            CHECKS.refused("begin(6, -1)", x, y -> y.begin(6, -1));
        }
    }

    private static void beginWireIsBit() {
        CHECKS.sentence("Promise 2: each WIRE's VALUE is its bit of the START (WIRE i is bit i)");
        PathSums x = new PathSums();
        for (int i = 0; i < 6; i++) {
            CHECKS.due("begin(6, " + (1 << i) + ")", x.begin(6, 1 << i), true);
            for (int wire = 0; wire < 6; wire++) {
                CHECKS.due("wire(" + wire + ", 1)", x.wire(wire, 1), wire == i ? 1 : 0);
                CHECKS.due("wire(" + wire + ", 0)", x.wire(wire, 0), 0);
            }
        }
    }

    private static void beginNothingIsLeft() {
        CHECKS.sentence("Promise 2: no BITS, no MONOMIALS, h is 0, whatever was before");
        PathSums x = Sums.used(CHECKS);
        Sums.go(CHECKS, x, "begin 1 0");
        CHECKS.due("state", Checks.state(x), NEW_STATE);
        Sums.go(CHECKS, x, "begin 6 63", "begin 1 0", "begin 6 0");
        CHECKS.due("VALUES of WIRES that were away", Checks.wires(x), "0+0 0+0 0+0 0+0 0+0 0+0");
        Sums.go(CHECKS, x, "open 6", "5 3", "begin 6 0", "10 0", "10 1", "10 2", "10 3");
        CHECKS.due("a MONOMIAL of before does not come back with its BIT", Checks.terms(x), "");
    }

    private static void beginBehindEmpty() {
        CHECKS.sentence("Promise 2: BEGUN behind an EMPTY one: no BITS, h is 0, gates are taken again");
        for (PathSums x : new PathSums[]{Sums.empty(CHECKS), Sums.emptyOpen(CHECKS)}) {
            Sums.go(CHECKS, x, "begin 1 0");
            CHECKS.due("state", Checks.state(x), NEW_STATE);
            CHECKS.due("from 0 to 0", Checks.amplitude(x, 0, 0), "1 0 0 0 0");
            CHECKS.due("gate(10, 0, 0, 0)", x.gate(10, 0, 0, 0), true);
            CHECKS.due("its first BIT is 0", x.wire(0, 0), 1);
        }
    }

    private static void beginBehindFull() {
        CHECKS.sentence("Promise 2: BEGUN behind one to which 24 BITS came: BITS come again, from 0");
        PathSums x = new PathSums();
        Sums.times(CHECKS, x, 24, "10 0");
        CHECKS.refusedGate(x, 10, 0, 0, 0);
        Sums.go(CHECKS, x, "begin 1 1", "10 0");
        CHECKS.due("the first BIT", Checks.wires(x), "1+0");
        CHECKS.due("the one MONOMIAL", Checks.terms(x), " 4*1");
        Sums.times(CHECKS, x, 23, "10 0");
        CHECKS.refusedGate(x, 10, 0, 0, 0);
    }

    private static void openLeastAndMost() {
        CHECKS.sentence("Promise 3: BEGUN open, N WIRES (1 .. 6): true");
        for (int n = 1; n <= 6; n++) {
            PathSums x = Sums.of(CHECKS, "open " + n);
            CHECKS.due(n + " WIRES, total(0)", x.total(0), n);
            CHECKS.due(n + " WIRES, total(6)", x.total(6), 1);
            CHECKS.due(n + " WIRES, the last one", x.wire(n - 1, 0), 1 << n - 1);
            CHECKS.due(n + " WIRES, one more", x.wire(n, 0), PathSums.NONE);
        }
    }

    private static void openAnotherN() {
        CHECKS.sentence("Promise 3: false for another N");
        PathSums x = new PathSums();
        for (int n : NO_N) {
            CHECKS.due("open(" + n + ")", x.open(n), false);
        }
    }

    private static void openRefusedChangesNothing() {
        CHECKS.sentence("Promise 3: false, changing nothing");
        for (PathSums x : ofEachSort()) {
            for (int n : new int[]{0, 7, -1, LEAST, MOST}) {
                CHECKS.refused("open(" + n + ")", x, y -> y.open(n));
            }
        }
    }

    private static void openInputIsValue() {
        CHECKS.sentence("Promise 3: BEGUN open: BIT i, an INPUT, is the VALUE of WIRE i");
        PathSums x = Sums.of(CHECKS, "open 6");
        CHECKS.due("VALUES", Checks.wires(x), "1+0 2+0 4+0 8+0 16+0 32+0");
        CHECKS.due("the BITS that are there", x.total(1), 63);
        CHECKS.due("how many came", x.total(2), 6);
        for (int input = 0; input < 64; input++) {
            CHECKS.due("from " + input + " to itself", Checks.amplitude(x, input, input), "1 0 0 0 0");
            CHECKS.due("from " + input + " to another", Checks.amplitude(x, input, input ^ 1 << input % 6), "0 0 0 0 0");
        }
    }

    private static void openNothingIsLeft() {
        CHECKS.sentence("Promise 3: BEGUN open: no more BITS, no MONOMIALS, h is 0, whatever was before");
        String due = "2 3 2 0 0 0 1 h 0 wire 1+0 wire 2+0 wire -1+-1 wire -1+-1 wire -1+-1 wire -1+-1 terms";
        PathSums x = Sums.used(CHECKS);
        Sums.go(CHECKS, x, "open 2");
        CHECKS.due("behind a used one", Checks.state(x), due);
        Sums.go(CHECKS, x, "begin 6 63", "5 0", "open 2");
        CHECKS.due("behind one with constants", Checks.state(x), due);
        Sums.go(CHECKS, x, "open 6", "5 1", "open 2");
        CHECKS.due("behind one with more INPUTS", Checks.state(x), due);
    }

    private static void openBehindEmptyAndFull() {
        CHECKS.sentence("Promise 3: BEGUN open behind an EMPTY or a full one");
        for (PathSums x : new PathSums[]{Sums.empty(CHECKS), Sums.emptyOpen(CHECKS)}) {
            Sums.go(CHECKS, x, "open 1", "10 0");
            CHECKS.due("EMPTY before, total(5)", x.total(5), 0);
            CHECKS.due("EMPTY before, total(4)", x.total(4), 0);
            CHECKS.due("EMPTY before, from 1 to 1", Checks.amplitude(x, 1, 1), "-1 0 0 0 1");
        }
        PathSums x = new PathSums();
        Sums.times(CHECKS, x, 24, "10 0");
        Sums.go(CHECKS, x, "open 1");
        Sums.times(CHECKS, x, 23, "10 0");
        CHECKS.due("full before, the last BIT", x.wire(0, 0), 1 << 23);
    }

    private static void fiveHundredAndTwelveCalls() {
        CHECKS.sentence("What it is: an object is used for at most 512 calls after it has been made");
        PathSums x = new PathSums();
        int calls = 0;
        while (calls + 4 <= 508) {
            Sums.go(CHECKS, x, "begin 1 1", "10 0", "10 0");
            CHECKS.due("call " + (calls + 4), x.reduce(), 1);
            calls += 4;
        }
        Sums.go(CHECKS, x, "5 0", "5 0", "5 0");
        CHECKS.due("call 512", Checks.part(x, 0, 1, 3), "1");
    }
}
