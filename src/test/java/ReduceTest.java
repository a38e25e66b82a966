/** Promises 5 and 6: reduce and rule. */
public final class ReduceTest {
    private static final Checks CHECKS = new Checks();

    public static void main(String[] args) {
        nothingToDo();
        freeBit();
        cancelled();
        cancelledOpen();
        boundBits();
        boundBitsWithConstant();
        boundToTheGreatest();
        boundToNoInput();
        boundBitInsideTurns();
        quarterTurns();
        quarterTurnsWithInputs();
        noRuleForOtherNumbers();
        noRuleForBitsInValues();
        theLeastBitFirst();
        rulesAddUp();
        mostRules();
        wrongQuestions();
        CHECKS.end();
    }

    private static PathSums with(PathSums x, int[]... gates) {
        CHECKS.gates(x, gates);
        return x;
    }

    private static PathSums begun(int wires, int start) {
        PathSums x = new PathSums();
        x.begin(wires, start);
        return x;
    }

    private static PathSums opened(int wires) {
        PathSums x = new PathSums();
        x.open(wires);
        return x;
    }

    private static void reduced(String run, PathSums x, String rules, String wires, String terms, int halves) {
        int before = x.total(4);
        int done = x.reduce();
        StringBuilder gotRules = new StringBuilder();
        for (int i = before; i < x.total(4); i++) {
            gotRules.append('[').append(x.rule(i, 0)).append(' ').append(x.rule(i, 1)).append(' ').append(x.rule(i, 2)).append(']');
        }
        CHECKS.due(run + ": rules", gotRules.toString(), rules);
        CHECKS.due(run + ": reduce()", done, x.total(4) - before);
        CHECKS.due(run + ": wires", Checks.wires(x), wires);
        CHECKS.due(run + ": terms", Checks.terms(x), terms);
        CHECKS.due(run + ": halves", x.halves(), halves);
        CHECKS.due(run + ": reduce() again", x.reduce(), 0);
    }

    private static void nothingToDo() {
        reduced("a new one", new PathSums(), "", "0+0", "", 0);
        reduced("an open one", opened(2), "", "1+0 2+0", "", 0);
    }

    private static void freeBit() {
        PathSums x = with(begun(1, 0), new int[]{11, 0, 0, 0});
        reduced("0 measured of 0", x, "[1 0 -1]", "0+0", "", 0);
        CHECKS.due("the BIT went", x.total(1), 0);
        CHECKS.due("it came", x.total(2), 1);
        reduced("1 measured of 1", with(begun(2, 2), new int[]{12, 1, 0, 0}, new int[]{12, 1, 0, 0}), "[1 0 -1][1 1 -1]",
                "0+0 0+1", "", 0);
    }

    private static void cancelled() {
        PathSums x = with(begun(2, 1), new int[]{10, 1, 0, 0}, new int[]{5, 1, 0, 0}, new int[]{0, 1, 0, 0}, new int[]{11, 0, 0, 0});
        reduced("0 measured of 1", x, "[2 1 -1]", "0+1 0+1", "", 0);
        CHECKS.due("EMPTY", x.total(5), 1);
        CHECKS.due("no BITS are there", x.total(1), 0);
        CHECKS.due("they came", x.total(2), 2);
        for (int output = 0; output < 4; output++) {
            CHECKS.due("EMPTY, to " + output, Checks.amplitude(x, 0, output), "0 0 0 0 0");
        }
    }

    private static void cancelledOpen() {
        PathSums x = with(opened(2), new int[]{10, 0, 0, 0}, new int[]{0, 1, 0, 0},
                new int[]{11, 0, 0, 0}, new int[]{12, 0, 0, 0});
        // BIT 2 is wire 0; y = 3 makes it 0, so that 4 is left of y = 4
        reduced("0 and 1 measured", x, "[3 3 2][2 4 -1]", "0+0 2+1", "", 0);
        CHECKS.due("EMPTY", x.total(5), 1);
        CHECKS.due("INPUTS stay", x.total(1), 3);
        CHECKS.due("EMPTY, 0 to 2", Checks.amplitude(x, 0, 2), "0 0 0 0 0");
        x = with(opened(3), new int[]{10, 0, 0, 0}, new int[]{11, 0, 0, 0}, new int[]{12, 0, 0, 0}, new int[]{10, 1, 0, 0},
                new int[]{1, 1, 2, 0}, new int[]{0, 1, 0, 0});
        // wire 1 is b6 + x2 + 1 when the SUM gets EMPTY
        reduced("EMPTY with a BIT in a VALUE", x, "[3 4 3][2 5 -1]", "0+0 4+1 4+0", "", 0);
        CHECKS.due("INPUTS stay", x.total(1), 7);
    }

    private static void boundBits() {
        PathSums x = with(begun(1, 1), new int[]{10, 0, 0, 0}, new int[]{10, 0, 0, 0});
        // 4*b0 + 4*b0*b1: b1 is 1
        reduced("h twice of 1", x, "[3 0 1]", "0+1", "", 0);
        CHECKS.due("both BITS went", x.total(1), 0);
        x = with(opened(1), new int[]{10, 0, 0, 0}, new int[]{10, 0, 0, 0});
        reduced("h twice of an INPUT", x, "[3 1 2]", "1+0", "", 0);
        CHECKS.due("the INPUT stays", x.total(1), 1);
    }

    private static void boundBitsWithConstant() {
        PathSums x = with(opened(2), new int[]{10, 0, 0, 0}, new int[]{0, 0, 0, 0}, new int[]{1, 0, 1, 0}, new int[]{12, 0, 0, 0});
        // wire 0 is b2 + x1 + 1 and must be 1: 4*b3*(b2 + x1): b2 is x1
        reduced("1 measured", x, "[3 3 2]", "0+1 2+0", " 4*3", 1);
        x = with(opened(2), new int[]{10, 0, 0, 0}, new int[]{1, 0, 1, 0}, new int[]{12, 0, 0, 0});
        // wire 0 is b2 + x1: b2 is x1 + 1
        reduced("1 measured, with 4", x, "[3 3 2]", "0+1 2+0", " 4*1 4*3", 1);
    }

    private static void boundToTheGreatest() {
        PathSums x = with(begun(3, 0), new int[]{10, 0, 0, 0}, new int[]{10, 1, 0, 0}, new int[]{10, 2, 0, 0},
                new int[]{1, 0, 1, 0}, new int[]{1, 0, 2, 0}, new int[]{11, 0, 0, 0});
        // 4*b3*(b0 + b1 + b2): b2, the greatest, is b0 + b1
        reduced("three BITS", x, "[3 3 2]", "0+0 2+0 3+0", "", 3);
        CHECKS.due("b0 and b1 stay", x.total(1), 3);
    }

    private static void boundToNoInput() {
        PathSums x = with(opened(2), new int[]{1, 0, 1, 0}, new int[]{11, 0, 0, 0});
        reduced("INPUTS alone", x, "", "3+0 2+0", " 4*5 4*6", 2);
        CHECKS.due("0 to 0", Checks.amplitude(x, 0, 0), "1 0 0 0 0");
        CHECKS.due("1 to 1", Checks.amplitude(x, 1, 1), "0 0 0 0 0");
        x = with(opened(2), new int[]{12, 0, 0, 0});
        reduced("an INPUT and 4", x, "", "1+0 2+0", " 4*4 4*5", 2);
    }

    private static void boundBitInsideTurns() {
        PathSums x = with(opened(3), new int[]{10, 2, 0, 0}, new int[]{5, 2, 0, 0}, new int[]{1, 2, 0, 0}, new int[]{1, 2, 1, 0},
                new int[]{12, 2, 0, 0});
        // b3 + 4*b3*x2, then b3 is x0 + x1 + 1: t of it is 1 - x0 - x1 + 2*x0*x1
        reduced("z in a turn", x, "[3 4 3]", "1+0 2+0 0+1", " 1*0 7*1 7*2 2*3 4*4 4*5 4*6", 1);
    }

    private static void quarterTurns() {
        PathSums x = with(begun(1, 0), new int[]{10, 0, 0, 0}, new int[]{4, 0, 0, 0}, new int[]{10, 0, 0, 0});
        // 2*b0 + 4*b0*b1: 1 + 6*b1
        reduced("s", x, "[4 0 -1]", "2+0", " 1*0 6*2", 1);
        x = with(begun(1, 0), new int[]{10, 0, 0, 0}, new int[]{6, 0, 0, 0}, new int[]{10, 0, 0, 0});
        reduced("the inverse of s", x, "[4 0 -1]", "2+0", " 7*0 2*2", 1);
        x = with(begun(2, 0), new int[]{10, 0, 0, 0}, new int[]{4, 0, 0, 0}, new int[]{10, 1, 0, 0}, new int[]{8, 0, 1, 0},
                new int[]{10, 0, 0, 0});
        // 2*b0 + 4*b0*b1 + 4*b0*b2: 1 + 6*(b1 + b2 - 2*b1*b2)
        reduced("s and two BITS", x, "[4 0 -1]", "4+0 2+0", " 1*0 6*2 6*4 4*6", 2);
    }

    private static void quarterTurnsWithInputs() {
        PathSums x = with(opened(2), new int[]{10, 0, 0, 0}, new int[]{8, 0, 1, 0}, new int[]{6, 0, 0, 0}, new int[]{10, 0, 0, 0});
        // b2 * (4*x0 + 4*x1 + 6 + 4*b3): 7 + 2*(x0 + x1 + b3 - 2*..)
        reduced("INPUTS, too", x, "[4 2 -1]", "8+0 2+0", " 7*0 2*1 2*2 4*3 2*8 4*9 4*10", 1);
    }

    private static void noRuleForOtherNumbers() {
        for (int kind : new int[]{5, 7}) {
            PathSums x = with(begun(1, 0), new int[]{10, 0, 0, 0}, new int[]{kind, 0, 0, 0}, new int[]{10, 0, 0, 0});
            CHECKS.due("an odd number, kind " + kind, x.reduce(), 0);
        }
        PathSums x = with(begun(3, 0), new int[]{10, 0, 0, 0}, new int[]{10, 1, 0, 0}, new int[]{10, 2, 0, 0},
                new int[]{9, 0, 1, 2}, new int[]{10, 0, 0, 0});
        CHECKS.due("a product of three", x.reduce(), 0);
        x = with(begun(2, 0), new int[]{10, 0, 0, 0}, new int[]{10, 1, 0, 0}, new int[]{1, 1, 0, 0}, new int[]{5, 1, 0, 0},
                new int[]{1, 1, 0, 0}, new int[]{7, 0, 0, 0}, new int[]{10, 0, 0, 0});
        CHECKS.due("6 of a pair, term(3)", x.term(3), 6);
        CHECKS.due("6 of a pair, term(1)", x.term(1), 0);
        CHECKS.due("6 of a pair", x.reduce(), 0);
    }

    private static void noRuleForBitsInValues() {
        PathSums x = with(begun(2, 0), new int[]{10, 0, 0, 0}, new int[]{1, 1, 0, 0}, new int[]{10, 0, 0, 0});
        CHECKS.due("BIT 0 is in wire 1, BIT 1 in wire 0", x.reduce(), 0);
        x = with(begun(2, 0), new int[]{10, 0, 0, 0}, new int[]{4, 0, 0, 0});
        CHECKS.due("2 in a VALUE", x.reduce(), 0);
    }

    private static void theLeastBitFirst() {
        // 2*b0 + 4*b0*b1 + 4*b1*b2: BIT 0 by rule 4, then b1: 6 + 4*b2 by rule 4, too
        PathSums x = with(begun(1, 0), new int[]{10, 0, 0, 0}, new int[]{4, 0, 0, 0}, new int[]{10, 0, 0, 0}, new int[]{10, 0, 0, 0});
        reduced("s, h, h", x, "[4 0 -1][4 1 -1]", "4+0", " 2*4", 1);
        // b0 has an odd number, b1 a bound: z = b2, then b0 has none with b2 but stays in the VALUE
        x = with(begun(1, 0), new int[]{10, 0, 0, 0}, new int[]{5, 0, 0, 0}, new int[]{10, 0, 0, 0}, new int[]{10, 0, 0, 0});
        reduced("t, h, h", x, "[3 1 2]", "1+0", " 1*1", 1);
        // BIT 0 is bound: b2 is b1; BIT 3 was free all along, but comes behind it
        x = with(begun(2, 2), new int[]{10, 0, 0, 0}, new int[]{12, 0, 0, 0}, new int[]{10, 0, 0, 0}, new int[]{12, 1, 0, 0});
        reduced("mixed", x, "[3 0 2][1 3 -1]", "2+0 0+1", " 4*2", 2);
    }

    private static void rulesAddUp() {
        PathSums x = with(begun(2, 2), new int[]{10, 0, 0, 0}, new int[]{10, 0, 0, 0});
        CHECKS.due("first reduce()", x.reduce(), 1);
        with(x, new int[]{12, 1, 0, 0}, new int[]{10, 0, 0, 0}, new int[]{4, 0, 0, 0}, new int[]{10, 0, 0, 0});
        CHECKS.due("second reduce()", x.reduce(), 2);
        CHECKS.due("third reduce()", x.reduce(), 0);
        CHECKS.due("total(4)", x.total(4), 3);
        int[][] due = {{3, 0, 1}, {1, 2, -1}, {4, 3, -1}};
        for (int i = 0; i < 3; i++) {
            for (int what = 0; what < 3; what++) {
                CHECKS.due("rule(" + i + ", " + what + ")", x.rule(i, what), due[i][what]);
            }
        }
        CHECKS.due("begin", x.begin(1, 0), true);
        CHECKS.due("rule(0, 0) behind begin", x.rule(0, 0), -1);
        x = with(begun(1, 0), new int[]{11, 0, 0, 0});
        x.reduce();
        CHECKS.due("open", x.open(1), true);
        CHECKS.due("rule(0, 0) behind open", x.rule(0, 0), -1);
    }

    /** As many RULES as there can be: 24. */
    private static void mostRules() {
        PathSums x = new PathSums();
        for (int i = 0; i < 24; i++) {
            with(x, new int[]{11, 0, 0, 0});
        }
        CHECKS.due("halves() of 24 measured", x.halves(), 48);
        CHECKS.due("reduce() of 24 free BITS", x.reduce(), 24);
        CHECKS.due("halves()", x.halves(), 0);
        for (int i = 0; i < 24; i++) {
            CHECKS.due("rule(" + i + ", 1)", x.rule(i, 1), i);
        }
        CHECKS.due("rule(24, 0)", x.rule(24, 0), -1);
    }

    private static void wrongQuestions() {
        PathSums x = with(begun(1, 0), new int[]{10, 0, 0, 0}, new int[]{10, 0, 0, 0});
        CHECKS.due("rule(0, 0) before reduce", x.rule(0, 0), -1);
        x.reduce();
        for (int i : new int[]{-1, 1, 2, 23, 24, 25, Integer.MIN_VALUE, Integer.MAX_VALUE}) {
            for (int what = 0; what < 3; what++) {
                CHECKS.due("rule(" + i + ", " + what + ")", x.rule(i, what), -1);
            }
        }
        for (int what : new int[]{-1, 3, 4, Integer.MIN_VALUE, Integer.MAX_VALUE}) {
            CHECKS.due("rule(0, " + what + ")", x.rule(0, what), -1);
        }
    }
}
