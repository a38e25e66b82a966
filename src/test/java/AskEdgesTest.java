/** Promises 7, 8, 10 and 11: each sentence that names a boundary case has a test of its own. */
public final class AskEdgesTest {
    private static final Checks CHECKS = new Checks();
    private static final int LEAST = Integer.MIN_VALUE;
    private static final int MOST = Integer.MAX_VALUE;

    public static void main(String[] args) {
        termOfNone();
        termNotThere();
        termOfABitThatIsGone();
        termOfABitThatDidNotCome();
        termOfBitsOfBefore();
        termOfMoreThanThree();
        termOfTheGreatestSets();
        termLeastAndMostNumber();
        wireSet();
        wireConstant();
        noSuchWire();
        noSuchWhatOfAWire();
        totalWires();
        totalBitsThere();
        totalBitsCame();
        totalMonomials();
        totalRules();
        totalEmpty();
        totalOpen();
        totalAnotherWhat();
        halvesLeastAndMost();
        halvesOfRules();
        halvesOfEmpty();
        askingChangesNothing();
        CHECKS.end();
    }

    private static void none(String call, int got) {
        CHECKS.due(call, got, PathSums.NONE);
    }

    private static void termOfNone() {
        CHECKS.sentence("Promise 7: a set of BITS (0: of none)");
        CHECKS.due("no BITS came, term(0)", new PathSums().term(0), 0);
        CHECKS.due("t of 1, term(0)", Sums.of(CHECKS, "begin 1 1", "5 0").term(0), 1);
        CHECKS.due("of an INPUT alone, term(0)", Sums.of(CHECKS, "open 1", "5 0").term(0), 0);
        CHECKS.due("EMPTY, term(0)", Sums.of(CHECKS, "begin 1 1", "5 0", "11 0", "reduce").term(0), 0);
    }

    private static void termNotThere() {
        CHECKS.sentence("Promise 7: 0 if it is not there");
        PathSums x = Sums.of(CHECKS, "open 3", "8 0 2");
        int[] due = {0, 0, 0, 0, 0, 4, 0, 0};
        for (int set = 0; set < 8; set++) {
            CHECKS.due("term(" + set + ")", x.term(set), due[set]);
        }
        Sums.go(CHECKS, x, "8 0 2");
        CHECKS.due("4 and 4, term(5)", x.term(5), 0);
    }

    private static void termOfABitThatIsGone() {
        CHECKS.sentence("Promise 7: 0 if it is not there: of a BIT that came and is gone, not NONE");
        PathSums x = Sums.of(CHECKS, "10 0", "10 0", "reduce");
        for (int set = 0; set < 4; set++) {
            CHECKS.due("term(" + set + ")", x.term(set), 0);
        }
        none("term(4)", x.term(4));
        x = Sums.empty(CHECKS);
        for (int set = 0; set < 4; set++) {
            CHECKS.due("EMPTY, term(" + set + ")", x.term(set), 0);
        }
        none("EMPTY, term(4)", x.term(4));
    }

    private static void termOfABitThatDidNotCome() {
        CHECKS.sentence("Promise 7: NONE for a set with a BIT that did not come");
        PathSums x = new PathSums();
        for (int came = 0; came <= 24; came++) {
            if (came > 0) {
                Sums.go(CHECKS, x, "11 0");
                CHECKS.due(came + " came, the last", x.term(1 << came - 1), 0);
                none(came + " came, the last and the next", x.term(3 << came - 1));
            }
            for (int bit = came; bit < 32; bit++) {
                none(came + " came, BIT " + bit, x.term(1 << bit));
            }
            for (int set : new int[]{-1, LEAST, MOST, 1 << 31 | 1, 1 << 24 | 1, 3 << 30}) {
                none(came + " came, term(" + set + ")", x.term(set));
            }
        }
    }

    private static void termOfBitsOfBefore() {
        CHECKS.sentence("Promise 7: a BIT that did not come: since it was BEGUN");
        PathSums x = Sums.of(CHECKS, "open 6", "5 5", "begin 1 0");
        none("behind begin, term(1)", x.term(1));
        none("behind begin, term(32)", x.term(32));
        Sums.go(CHECKS, x, "open 6", "5 5", "open 5");
        none("behind open, term(32)", x.term(32));
        CHECKS.due("behind open, term(16)", x.term(16), 0);
    }

    private static void termOfMoreThanThree() {
        CHECKS.sentence("Promise 7: NONE for a set of more than three");
        PathSums x = Sums.of(CHECKS, "open 6");
        for (int set = 0; set < 64; set++) {
            CHECKS.due("term(" + set + ")", x.term(set), Integer.bitCount(set) > 3 ? PathSums.NONE : 0);
        }
        none("and of one that did not come", x.term(7 | 64));
        none("and of one that did not come", x.term(15 | 64));
    }

    private static void termOfTheGreatestSets() {
        CHECKS.sentence("Promise 7: sets of the 24 BITS: BIT i is 2^i");
        PathSums x = Sums.of(CHECKS, "begin 3 0");
        Sums.times(CHECKS, x, 21, "11 0");
        Sums.go(CHECKS, x, "10 0", "10 1", "10 2", "9 0 1 2", "8 1 2", "5 2");
        CHECKS.due("BITS 21, 22, 23", x.term(7 << 21), 4);
        CHECKS.due("BITS 22, 23", x.term(3 << 22), 4);
        CHECKS.due("BIT 23", x.term(1 << 23), 1);
        CHECKS.due("BITS 0, 22, 23", x.term(3 << 22 | 1), 0);
        none("BITS 20 to 23", x.term(15 << 20));
        none("BITS 22, 23, and 24", x.term(7 << 22));
        none("all", x.term((1 << 24) - 1));
    }

    private static void termLeastAndMostNumber() {
        CHECKS.sentence("Promise 7: the number of the MONOMIAL: 1 .. 7");
        PathSums x = Sums.of(CHECKS, "open 1");
        for (int number = 1; number <= 7; number++) {
            Sums.go(CHECKS, x, "5 0");
            CHECKS.due("t " + number + " times", x.term(1), number);
        }
        Sums.go(CHECKS, x, "5 0");
        CHECKS.due("t 8 times", x.term(1), 0);
    }

    private static void wireSet() {
        CHECKS.sentence("Promise 8: what 0: the set of BITS: 0 of none, 2^23 of the last one");
        PathSums x = new PathSums();
        CHECKS.due("of none", x.wire(0, 0), 0);
        Sums.go(CHECKS, x, "0 0");
        CHECKS.due("the constant is not in it", x.wire(0, 0), 0);
        Sums.go(CHECKS, x, "begin 6 0");
        for (int i = 0; i < 24; i++) {
            Sums.go(CHECKS, x, "10 " + i % 5, "1 5 " + i % 5);
        }
        CHECKS.due("the last one", x.wire(3, 0), 1 << 23);
        CHECKS.due("all", x.wire(5, 0), (1 << 24) - 1);
        Sums.go(CHECKS, x, "0 5");
        CHECKS.due("all, with a constant", x.wire(5, 0), (1 << 24) - 1);
    }

    private static void wireConstant() {
        CHECKS.sentence("Promise 8: what 1: the constant: 0 or 1");
        PathSums x = Sums.of(CHECKS, "open 2");
        for (int i = 0; i < 4; i++) {
            CHECKS.due("x " + i + " times", x.wire(1, 1), i % 2);
            Sums.go(CHECKS, x, "0 1");
        }
        CHECKS.due("of the other WIRE", x.wire(0, 1), 0);
    }

    private static void noSuchWire() {
        CHECKS.sentence("Promise 8: NONE if there is no such WIRE");
        PathSums x = new PathSums();
        for (int n = 1; n <= 6; n++) {
            Sums.go(CHECKS, x, "begin 6 63", "begin " + n + " " + ((1 << n) - 1));
            CHECKS.due(n + " WIRES, the last", x.wire(n - 1, 1), 1);
            for (int i : new int[]{-1, -2, n, n + 1, 6, 7, 32, LEAST, MOST}) {
                none(n + " WIRES, wire(" + i + ", 0)", x.wire(i, 0));
                none(n + " WIRES, wire(" + i + ", 1)", x.wire(i, 1));
            }
        }
    }

    private static void noSuchWhatOfAWire() {
        CHECKS.sentence("Promise 8: NONE if there is no such what");
        PathSums x = Sums.of(CHECKS, "open 2", "0 1");
        for (int what : new int[]{-1, -2, 2, 3, 32, LEAST, MOST}) {
            none("wire(0, " + what + ")", x.wire(0, what));
            none("wire(1, " + what + ")", x.wire(1, what));
            none("wire(2, " + what + ")", x.wire(2, what));
        }
    }

    private static void totalWires() {
        CHECKS.sentence("Promise 10: what 0: WIRES");
        CHECKS.due("the least", new PathSums().total(0), 1);
        CHECKS.due("the most", Sums.of(CHECKS, "begin 6 0").total(0), 6);
        CHECKS.due("EMPTY", Sums.empty(CHECKS).total(0), 3);
    }

    private static void totalBitsThere() {
        CHECKS.sentence("Promise 10: what 1: the set of BITS that are there");
        PathSums x = new PathSums();
        CHECKS.due("none", x.total(1), 0);
        Sums.times(CHECKS, x, 24, "10 0");
        CHECKS.due("all 24", x.total(1), (1 << 24) - 1);
        Sums.go(CHECKS, x, "reduce");
        CHECKS.due("all went", x.total(1), 0);
        CHECKS.due("INPUTS", Sums.of(CHECKS, "open 6").total(1), 63);
        CHECKS.due("EMPTY", Sums.empty(CHECKS).total(1), 0);
        CHECKS.due("EMPTY, INPUTS", Sums.emptyOpen(CHECKS).total(1), 3);
    }

    private static void totalBitsCame() {
        CHECKS.sentence("Promise 10: what 2: how many came");
        PathSums x = new PathSums();
        for (int came = 0; came < 24; came++) {
            CHECKS.due("total(2)", x.total(2), came);
            Sums.go(CHECKS, x, 10 + came % 3 + " 0");
        }
        CHECKS.due("24 came", x.total(2), 24);
        CHECKS.due("one that is refused", x.gate(10, 0, 0, 0), false);
        CHECKS.due("24 came", x.total(2), 24);
        CHECKS.due("INPUTS, too", Sums.of(CHECKS, "open 6", "11 0").total(2), 7);
        CHECKS.due("of those that are gone, too", Sums.of(CHECKS, "10 0", "10 0", "reduce").total(2), 2);
        CHECKS.due("EMPTY", Sums.emptyOpen(CHECKS).total(2), 5);
    }

    private static void totalMonomials() {
        CHECKS.sentence("Promise 10: what 3: MONOMIALS");
        PathSums x = Sums.of(CHECKS, "begin 1 1");
        CHECKS.due("none", x.total(3), 0);
        Sums.go(CHECKS, x, "5 0");
        CHECKS.due("that of no BIT", x.total(3), 1);
        Sums.go(CHECKS, x, "5 0");
        CHECKS.due("it is one still", x.total(3), 1);
        Sums.go(CHECKS, x, "6 0");
        CHECKS.due("it is not there", x.total(3), 0);
        CHECKS.due("a BIT taken away by RULE 3", Sums.of(CHECKS, "open 1", "10 0", "10 0", "reduce").total(3), 0);
        CHECKS.due("EMPTY", Sums.empty(CHECKS).total(3), 0);
    }

    private static void totalRules() {
        CHECKS.sentence("Promise 10: what 4: RULES done since it was BEGUN");
        PathSums x = Sums.of(CHECKS, "11 0");
        CHECKS.due("none", x.total(4), 0);
        Sums.go(CHECKS, x, "reduce", "11 0", "11 0", "reduce");
        CHECKS.due("those of two calls", x.total(4), 3);
        CHECKS.due("begin(1, 2)", x.begin(1, 2), false);
        CHECKS.due("behind a begin that was refused", x.total(4), 3);
        Sums.go(CHECKS, x, "begin 1 0");
        CHECKS.due("behind begin", x.total(4), 0);
        Sums.go(CHECKS, x, "11 0", "reduce", "open 1");
        CHECKS.due("behind open", x.total(4), 0);
    }

    private static void totalEmpty() {
        CHECKS.sentence("Promise 10: what 5: 1 if it is EMPTY, else 0");
        PathSums x = Sums.of(CHECKS, "begin 1 1", "11 0");
        CHECKS.due("not before RULE 2 is done", x.total(5), 0);
        Sums.go(CHECKS, x, "reduce");
        CHECKS.due("EMPTY", x.total(5), 1);
        CHECKS.due("open(7)", x.open(7), false);
        CHECKS.due("behind an open that was refused", x.total(5), 1);
        Sums.go(CHECKS, x, "begin 1 1");
        CHECKS.due("behind begin", x.total(5), 0);
        CHECKS.due("a new one", new PathSums().total(5), 0);
    }

    private static void totalOpen() {
        CHECKS.sentence("Promise 10: what 6: 1 if it was BEGUN open, else 0");
        PathSums x = new PathSums();
        CHECKS.due("a new one", x.total(6), 0);
        Sums.go(CHECKS, x, "open 1");
        CHECKS.due("behind open", x.total(6), 1);
        CHECKS.due("begin(0, 0)", x.begin(0, 0), false);
        CHECKS.due("behind a begin that was refused", x.total(6), 1);
        Sums.go(CHECKS, x, "begin 1 0");
        CHECKS.due("behind begin", x.total(6), 0);
        CHECKS.due("open(0)", x.open(0), false);
        CHECKS.due("behind an open that was refused", x.total(6), 0);
        CHECKS.due("EMPTY, open", Sums.emptyOpen(CHECKS).total(6), 1);
    }

    private static void totalAnotherWhat() {
        CHECKS.sentence("Promise 10: NONE for another what");
        for (PathSums x : new PathSums[]{new PathSums(), Sums.used(CHECKS), Sums.empty(CHECKS)}) {
            for (int what : new int[]{-1, -2, 7, 8, 32, 100, LEAST, MOST}) {
                none("total(" + what + ")", x.total(what));
            }
        }
    }

    private static void halvesLeastAndMost() {
        CHECKS.sentence("Promise 11: HALVES: 0 when it is BEGUN, 48 at most");
        PathSums x = new PathSums();
        CHECKS.due("a new one", x.halves(), 0);
        for (int i = 1; i <= 24; i++) {
            Sums.go(CHECKS, x, "12 0");
            CHECKS.due(i + " measured", x.halves(), 2 * i);
        }
        CHECKS.due("one that is refused", x.gate(12, 0, 0, 0), false);
        CHECKS.due("the most", x.halves(), 48);
        Sums.go(CHECKS, x, "begin 1 0");
        CHECKS.due("behind begin", x.halves(), 0);
        Sums.go(CHECKS, x, "10 0", "open 1");
        CHECKS.due("behind open", x.halves(), 0);
    }

    private static void halvesOfRules() {
        CHECKS.sentence("Promise 11: HALVES: 2 less by RULES 1 and 3, 1 less by RULE 4");
        CHECKS.due("1", Sums.of(CHECKS, "11 0", "reduce").halves(), 0);
        CHECKS.due("3", Sums.of(CHECKS, "10 0", "10 0", "10 0", "reduce").halves(), 1);
        CHECKS.due("4", Sums.of(CHECKS, "10 0", "4 0", "10 0", "reduce").halves(), 1);
    }

    private static void halvesOfEmpty() {
        CHECKS.sentence("Promise 11: HALVES: 0 of an EMPTY SUM");
        PathSums x = Sums.of(CHECKS, "begin 2 2", "10 0", "11 1");
        CHECKS.due("before", x.halves(), 3);
        CHECKS.due("reduce()", x.reduce(), 1);
        CHECKS.due("EMPTY", x.halves(), 0);
    }

    private static void askingChangesNothing() {
        CHECKS.sentence("Promises 6 to 11: what is asked changes nothing, wrong questions neither");
        for (PathSums x : new PathSums[]{new PathSums(), Sums.used(CHECKS), Sums.emptyOpen(CHECKS)}) {
            String before = Checks.shown(x);
            for (int i : new int[]{-1, 0, 1, 7, LEAST, MOST}) {
                x.rule(i, i);
                x.term(i);
                x.wire(i, i);
                x.total(i);
                Checks.part(x, i, i, i);
                Checks.part(x, 0, 0, i);
            }
            CHECKS.due("what it shows", Checks.shown(x), before);
        }
    }
}
