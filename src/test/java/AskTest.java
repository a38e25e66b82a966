/** Promises 7, 8, 10 and 11: term, wire, total, halves. */
public final class AskTest {
    private static final Checks CHECKS = new Checks();
    private static final int[] FAR = {Integer.MIN_VALUE, -2, -1, 7, 8, 100, Integer.MAX_VALUE};

    public static void main(String[] args) {
        termsOfSets();
        termsThatAreNone();
        termsOfBitsThatAreGone();
        termsOfAllTriples();
        wires();
        totals();
        totalsOfMonomials();
        halves();
        askingChangesNothing();
        CHECKS.end();
    }

    private static void termsOfSets() {
        PathSums x = new PathSums();
        x.open(3);
        CHECKS.due("term(0) of no MONOMIALS", x.term(0), 0);
        CHECKS.due("term(7) of no MONOMIALS", x.term(7), 0);
        CHECKS.gates(x, new int[]{1, 0, 1, 0}, new int[]{0, 0, 0, 0}, new int[]{7, 0, 0, 0}, new int[]{9, 0, 1, 2});
        // 7 - 7*(x + y - 2xy), and 4*(1 + x + y)yz = 4xyz, for 4yz comes twice
        int[] due = {7, 1, 1, 6, 0, 0, 0, 4};
        for (int set = 0; set < 8; set++) {
            CHECKS.due("term(" + set + ")", x.term(set), due[set]);
        }
    }

    private static void termsThatAreNone() {
        PathSums x = new PathSums();
        for (int set : new int[]{1, 2, 3, 1 << 23, 1 << 24, -1, Integer.MIN_VALUE, Integer.MAX_VALUE}) {
            CHECKS.due("no BITS, term(" + set + ")", x.term(set), -1);
        }
        x.open(4);
        for (int set : new int[]{15, 16, 17, 19, 32, 1 << 24, 1 << 31, -1, Integer.MAX_VALUE, 1 << 30 | 1}) {
            CHECKS.due("four BITS, term(" + set + ")", x.term(set), -1);
        }
        for (int set : new int[]{7, 11, 13, 14, 12, 8}) {
            CHECKS.due("four BITS, term(" + set + ")", x.term(set), 0);
        }
        for (int i = 4; i < 24; i++) {
            CHECKS.gates(x, new int[]{11, 0, 0, 0});
            CHECKS.due("the newest BIT, term", x.term(1 << i | 1), 4);
            CHECKS.due("the next BIT, term", x.term(2 << i), -1);
        }
        CHECKS.due("24 BITS, three of them", x.term(7 << 21), 0);
        CHECKS.due("24 BITS, four of them", x.term(15 << 20), -1);
        CHECKS.due("24 BITS, the 25th", x.term(1 << 24), -1);
        CHECKS.due("24 BITS, the 32nd", x.term(1 << 31), -1);
        CHECKS.due("24 BITS, all", x.term((1 << 24) - 1), -1);
    }

    private static void termsOfBitsThatAreGone() {
        PathSums x = new PathSums();
        CHECKS.gates(x, new int[]{10, 0, 0, 0}, new int[]{10, 0, 0, 0});
        CHECKS.due("term(3)", x.term(3), 4);
        CHECKS.due("reduce()", x.reduce(), 1);
        for (int set = 0; set < 4; set++) {
            CHECKS.due("gone, term(" + set + ")", x.term(set), 0);
        }
        CHECKS.gates(x, new int[]{10, 0, 0, 0}, new int[]{5, 0, 0, 0});
        CHECKS.due("the new BIT has a new number", x.wire(0, 0), 4);
        CHECKS.due("term(4)", x.term(4), 1);
        CHECKS.due("term(7)", x.term(7), 0);
        x.begin(1, 1);
        CHECKS.gates(x, new int[]{11, 0, 0, 0});
        x.reduce();
        CHECKS.due("EMPTY, term(1)", x.term(1), 0);
        CHECKS.due("EMPTY, term(0)", x.term(0), 0);
        CHECKS.due("EMPTY, term(2)", x.term(2), -1);
    }

    /** Every product of three of 24 BITS has a number of its own. */
    private static void termsOfAllTriples() {
        PathSums x = new PathSums();
        x.begin(6, 0);
        for (int i = 0; i < 24; i++) {
            CHECKS.gates(x, new int[]{10, i % 5, 0, 0}, new int[]{1, 5, i % 5, 0});
        }
        CHECKS.due("wire 5 has all BITS", x.wire(5, 0), (1 << 24) - 1);
        int before = x.total(3);
        CHECKS.gates(x, new int[]{5, 5, 0, 0});
        int ones = 0;
        int pairs = 0;
        for (int i = 0; i < 24; i++) {
            ones += x.term(1 << i) == 1 ? 1 : 0;
            for (int j = 0; j < i; j++) {
                // h of a wire that h was done on five gates before left 4 with that BIT
                pairs += x.term(1 << i | 1 << j) == (i - j == 5 ? 2 : 6) ? 1 : 0;
                for (int k = 0; k < j; k++) {
                    CHECKS.due("term of " + i + ", " + j + ", " + k, x.term(1 << i | 1 << j | 1 << k), 4);
                }
            }
        }
        CHECKS.due("terms of pairs before", before, 19);
        CHECKS.due("terms of one BIT", ones, 24);
        CHECKS.due("terms of two BITS", pairs, 276);
        CHECKS.due("total(3)", x.total(3), 24 + 276 + 2024);
        CHECKS.gates(x, new int[]{0, 5, 0, 0}, new int[]{5, 5, 0, 0});
        CHECKS.due("with t of 1 - that, 1 and the pairs of before are left", x.total(3), 20);
        CHECKS.due("term(0)", x.term(0), 1);
    }

    private static void wires() {
        PathSums x = new PathSums();
        x.open(6);
        CHECKS.gates(x, new int[]{0, 5, 0, 0}, new int[]{1, 4, 5, 0}, new int[]{10, 0, 0, 0});
        int[] sets = {64, 2, 4, 8, 48, 32};
        int[] constants = {0, 0, 0, 0, 1, 1};
        for (int i = 0; i < 6; i++) {
            CHECKS.due("wire(" + i + ", 0)", x.wire(i, 0), sets[i]);
            CHECKS.due("wire(" + i + ", 1)", x.wire(i, 1), constants[i]);
            for (int what : new int[]{-1, 2, 3, Integer.MIN_VALUE, Integer.MAX_VALUE}) {
                CHECKS.due("wire(" + i + ", " + what + ")", x.wire(i, what), -1);
            }
        }
        for (int i : FAR) {
            CHECKS.due("wire(" + i + ", 0)", x.wire(i, 0), -1);
            CHECKS.due("wire(" + i + ", 1)", x.wire(i, 1), -1);
        }
        CHECKS.due("wire(6, 0)", x.wire(6, 0), -1);
        x.begin(2, 3);
        CHECKS.due("two WIRES, wire(1, 1)", x.wire(1, 1), 1);
        for (int i = 2; i < 8; i++) {
            CHECKS.due("two WIRES, wire(" + i + ", 1)", x.wire(i, 1), -1);
        }
    }

    private static void totalsAre(String run, PathSums x, int... due) {
        for (int what = 0; what < due.length; what++) {
            CHECKS.due(run + ", total(" + what + ")", x.total(what), due[what]);
        }
        for (int what : FAR) {
            CHECKS.due(run + ", total(" + what + ")", x.total(what), -1);
        }
    }

    private static void totals() {
        PathSums x = new PathSums();
        totalsAre("new", x, 1, 0, 0, 0, 0, 0, 0);
        x.open(3);
        totalsAre("open", x, 3, 7, 3, 0, 0, 0, 1);
        CHECKS.gates(x, new int[]{10, 1, 0, 0}, new int[]{10, 1, 0, 0}, new int[]{10, 1, 0, 0}, new int[]{5, 1, 0, 0});
        totalsAre("with gates", x, 3, 63, 6, 4, 0, 0, 1);
        x.reduce();
        // 4*b3*b1 + 4*b3*b4 + 4*b4*b5 + b5: b4 is b1, then b5 is left
        totalsAre("reduced", x, 3, 39, 6, 2, 1, 0, 1);
        CHECKS.gates(x, new int[]{10, 0, 0, 0}, new int[]{11, 0, 0, 0}, new int[]{12, 0, 0, 0});
        x.reduce();
        totalsAre("EMPTY", x, 3, 7, 9, 0, 3, 1, 1);
        x.begin(2, 0);
        totalsAre("begun again", x, 2, 0, 0, 0, 0, 0, 0);
    }

    private static void totalsOfMonomials() {
        PathSums x = new PathSums();
        x.begin(1, 1);
        CHECKS.gates(x, new int[]{5, 0, 0, 0});
        CHECKS.due("that of no BIT counts, too", x.total(3), 1);
        CHECKS.gates(x, new int[]{7, 0, 0, 0});
        CHECKS.due("8 is 0", x.total(3), 0);
    }

    private static void halves() {
        PathSums x = new PathSums();
        int[][] gates = {{10, 1}, {10, 2}, {11, 4}, {12, 6}, {5, 6}, {0, 6}};
        for (int[] g : gates) {
            CHECKS.gates(x, new int[]{g[0], 0, 0, 0});
            CHECKS.due("halves() behind " + g[0], x.halves(), g[1]);
        }
        x.begin(1, 0);
        CHECKS.due("halves() of one begun again", x.halves(), 0);
    }

    private static void askingChangesNothing() {
        PathSums x = new PathSums();
        x.open(2);
        CHECKS.gates(x, new int[]{10, 0, 0, 0}, new int[]{4, 0, 0, 0}, new int[]{10, 0, 0, 0});
        String before = Checks.state(x);
        Checks.amplitude(x, 1, 2);
        Checks.amplitude(x, 4, 4);
        CHECKS.due("state behind questions", Checks.state(x), before);
        CHECKS.due("reduce()", x.reduce(), 1);
    }
}
