/** Promises 1, 2 and 3: a new object, begin, open. */
public final class StartTest {
    private static final Checks CHECKS = new Checks();
    private static final int[] NO_WIRES = {0, -1, 7, 8, 31, 32, 33, 34, 38, 64, Integer.MIN_VALUE, Integer.MAX_VALUE};

    public static void main(String[] args) {
        aNewObject();
        beginWithEachStart();
        beginRefuses();
        beginClears();
        openEachNumberOfWires();
        openRefuses();
        openClears();
        objectsAreApart();
        CHECKS.end();
    }

    private static final String NEW_STATE =
            "1 0 0 0 0 0 0 h 0 wire 0+0 wire -1+-1 wire -1+-1 wire -1+-1 wire -1+-1 wire -1+-1 terms";

    private static void aNewObject() {
        PathSums x = new PathSums();
        CHECKS.due("a new object", Checks.state(x), NEW_STATE);
        CHECKS.due("a new object, 0 to 0", Checks.amplitude(x, 0, 0), "1 0 0 0 0");
        CHECKS.due("a new object, 0 to 1", Checks.amplitude(x, 0, 1), "0 0 0 0 0");
        CHECKS.due("a new object, 0 to 2", Checks.part(x, 0, 2, 0), "throws.NoSuchElementException");
        CHECKS.due("a new object, any input", Checks.amplitude(x, 77, 0), "1 0 0 0 0");
        CHECKS.due("a new object, reduce()", x.reduce(), 0);
        CHECKS.due("a new object, term(1)", x.term(1), PathSums.NONE);
    }

    private static void beginWithEachStart() {
        PathSums x = new PathSums();
        for (int wires = 1; wires <= 6; wires++) {
            for (int start = 0; start < 1 << wires; start++) {
                String run = "begin(" + wires + ", " + start + ")";
                CHECKS.due(run, x.begin(wires, start), true);
                CHECKS.due(run + " total(0)", x.total(0), wires);
                CHECKS.due(run + " total(1)", x.total(1), 0);
                CHECKS.due(run + " total(2)", x.total(2), 0);
                CHECKS.due(run + " total(6)", x.total(6), 0);
                for (int i = 0; i < 6; i++) {
                    CHECKS.due(run + " wire(" + i + ", 0)", x.wire(i, 0), i < wires ? 0 : -1);
                    CHECKS.due(run + " wire(" + i + ", 1)", x.wire(i, 1), i < wires ? start >> i & 1 : -1);
                }
                CHECKS.due(run + " to the start", Checks.amplitude(x, 0, start), "1 0 0 0 0");
                CHECKS.due(run + " elsewhere", Checks.amplitude(x, 0, start ^ 1), "0 0 0 0 0");
            }
        }
    }

    private static void beginRefuses() {
        PathSums x = Sums.used(CHECKS);
        String before = Checks.state(x);
        for (int wires : NO_WIRES) {
            CHECKS.due("begin(" + wires + ", 0)", x.begin(wires, 0), false);
            CHECKS.due("begin(" + wires + ", 1)", x.begin(wires, 1), false);
        }
        for (int wires = 1; wires <= 6; wires++) {
            for (int start : new int[]{-1, 1 << wires, 1 << wires + 1, Integer.MAX_VALUE, Integer.MIN_VALUE}) {
                CHECKS.due("begin(" + wires + ", " + start + ")", x.begin(wires, start), false);
            }
        }
        CHECKS.due("state behind refused calls of begin", Checks.state(x), before);
    }

    private static void beginClears() {
        PathSums x = Sums.used(CHECKS);
        CHECKS.due("begin(1, 0) of a used one", x.begin(1, 0), true);
        CHECKS.due("state of one begun again", Checks.state(x), NEW_STATE);
        x = Sums.empty(CHECKS);
        CHECKS.due("begin(1, 0) of an EMPTY one", x.begin(1, 0), true);
        CHECKS.due("state of one begun again", Checks.state(x), NEW_STATE);
        CHECKS.due("its amplitude", Checks.amplitude(x, 0, 0), "1 0 0 0 0");
        CHECKS.due("its rule(0, 0)", x.rule(0, 0), PathSums.NONE);
        CHECKS.due("its gate(0, 0, 0, 0)", x.gate(0, 0, 0, 0), true);
        CHECKS.due("its gate(10, 0, 0, 0)", x.gate(10, 0, 0, 0), true);
        CHECKS.due("its first BIT", x.wire(0, 0), 1);
    }

    private static void openEachNumberOfWires() {
        PathSums x = new PathSums();
        for (int wires = 1; wires <= 6; wires++) {
            String run = "open(" + wires + ")";
            CHECKS.due(run, x.open(wires), true);
            int all = (1 << wires) - 1;
            int[] totals = {wires, all, wires, 0, 0, 0, 1};
            for (int what = 0; what < 7; what++) {
                CHECKS.due(run + " total(" + what + ")", x.total(what), totals[what]);
            }
            for (int i = 0; i < 6; i++) {
                CHECKS.due(run + " wire(" + i + ", 0)", x.wire(i, 0), i < wires ? 1 << i : -1);
                CHECKS.due(run + " wire(" + i + ", 1)", x.wire(i, 1), i < wires ? 0 : -1);
            }
            CHECKS.due(run + " halves()", x.halves(), 0);
            CHECKS.due(run + " reduce()", x.reduce(), 0);
            CHECKS.due(run + " all to all", Checks.amplitude(x, all, all), "1 0 0 0 0");
            CHECKS.due(run + " 0 to all", Checks.amplitude(x, 0, all), "0 0 0 0 0");
        }
    }

    private static void openRefuses() {
        PathSums x = Sums.used(CHECKS);
        String before = Checks.state(x);
        for (int wires : NO_WIRES) {
            CHECKS.due("open(" + wires + ")", x.open(wires), false);
        }
        CHECKS.due("state behind refused calls of open", Checks.state(x), before);
    }

    private static void openClears() {
        String want = "2 3 2 0 0 0 1 h 0 wire 1+0 wire 2+0 wire -1+-1 wire -1+-1 wire -1+-1 wire -1+-1 terms";
        PathSums x = Sums.used(CHECKS);
        CHECKS.due("open(2) of a used one", x.open(2), true);
        CHECKS.due("state of one opened again", Checks.state(x), want);
        x = Sums.empty(CHECKS);
        CHECKS.due("open(2) of an EMPTY one", x.open(2), true);
        CHECKS.due("state of one opened again", Checks.state(x), want);
        CHECKS.due("begin(2, 2) of an open one", x.begin(2, 2), true);
        CHECKS.due("state of one begun with a START again", Checks.state(x),
                "2 0 0 0 0 0 0 h 0 wire 0+0 wire 0+1 wire -1+-1 wire -1+-1 wire -1+-1 wire -1+-1 terms");
    }

    private static void objectsAreApart() {
        PathSums x = new PathSums();
        String before = Checks.state(x);
        Sums.used(CHECKS);
        Sums.empty(CHECKS);
        CHECKS.due("state of one that others do not touch", Checks.state(x), before);
    }
}
