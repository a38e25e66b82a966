/** Promise 4, and the Terms of GATES: each sentence that names a boundary case has a test of its own. */
public final class GateEdgesTest {
    private static final Checks CHECKS = new Checks();
    private static final int LEAST = Integer.MIN_VALUE;
    private static final int MOST = Integer.MAX_VALUE;
    private static final int[] TWO_WIRES = {1, 2, 8, 9};

    public static void main(String[] args) {
        noSuchKind();
        leastAndMostKind();
        noSuchWireA();
        noSuchControlB();
        noSuchControlC();
        theLastWire();
        aAndBAreTheSame();
        cIsTheSame();
        tooFewWires();
        othersCountForNothing();
        twentyFourBitsCame();
        onlyForTenToTwelve();
        bitsThatWentCameToo();
        inputsCameToo();
        theSumIsEmpty();
        xTwice();
        controlledByTheSameValue();
        controlStays();
        changePlaces();
        moduloEight();
        pairsModuloEight();
        atMostThreeBits();
        ofNoneToo();
        valueZero();
        sharedBits();
        opposites();
        hadamardOfConstants();
        hadamardValueIsY();
        measuredValueStays();
        measuredOfConstants();
        halvesOfGates();
        CHECKS.end();
    }

    /** Four WIRES with BITS, a constant and MONOMIALS. */
    private static PathSums filled() {
        return Sums.of(CHECKS, "open 4", "1 0 1", "0 2", "10 1", "5 0");
    }

    private static void noSuchKind() {
        CHECKS.sentence("Promise 4: false, changing nothing, if there is no such kind");
        PathSums x = filled();
        for (int kind : new int[]{-1, -2, 13, 14, 15, 16, 26, 256, LEAST, MOST}) {
            CHECKS.refusedGate(x, kind, 0, 1, 2);
        }
    }

    private static void leastAndMostKind() {
        CHECKS.sentence("Promise 4: true: the kinds 0 to 12");
        PathSums x = filled();
        for (int kind = 0; kind <= 12; kind++) {
            CHECKS.due("kind " + kind, x.gate(kind, 0, 1, 2), true);
        }
    }

    private static void noSuchWireA() {
        CHECKS.sentence("Promise 4: false, changing nothing, if there are no such WIRES: a");
        PathSums x = filled();
        for (int kind = 0; kind <= 12; kind++) {
            for (int a : new int[]{-1, 4, 5, 6, 32, LEAST, MOST}) {
                CHECKS.refusedGate(x, kind, a, 1, 2);
            }
        }
    }

    private static void noSuchControlB() {
        CHECKS.sentence("Promise 4: false, changing nothing, if there are no such WIRES: b of 1, 2, 8, 9");
        PathSums x = filled();
        for (int kind : TWO_WIRES) {
            for (int b : new int[]{-1, 4, 5, 6, 32, LEAST, MOST}) {
                CHECKS.refusedGate(x, kind, 0, b, 2);
            }
        }
    }

    private static void noSuchControlC() {
        CHECKS.sentence("Promise 4: false, changing nothing, if there are no such WIRES: c of 9");
        PathSums x = filled();
        for (int c : new int[]{-1, 4, 5, 6, 32, LEAST, MOST}) {
            CHECKS.refusedGate(x, 9, 0, 1, c);
        }
    }

    private static void theLastWire() {
        CHECKS.sentence("Promise 4: true: the last WIRE of each N, and none behind it");
        PathSums x = new PathSums();
        for (int n = 1; n <= 6; n++) {
            for (int kind = 0; kind <= 12; kind++) {
                Sums.go(CHECKS, x, "open " + n);
                int needed = kind == 9 ? 3 : kind == 1 || kind == 2 || kind == 8 ? 2 : 1;
                CHECKS.refusedGate(x, kind, n, 0, 1);
                CHECKS.due(n + " WIRES, kind " + kind, x.gate(kind, n - 1, n - 2, n - 3), n >= needed);
            }
        }
    }

    private static void aAndBAreTheSame() {
        CHECKS.sentence("Promise 4: false, changing nothing, if two of these are the same one: a and b of 1, 2, 8, 9");
        PathSums x = filled();
        for (int kind : TWO_WIRES) {
            for (int wire = 0; wire < 4; wire++) {
                CHECKS.refusedGate(x, kind, wire, wire, (wire + 1) % 4);
            }
        }
    }

    private static void cIsTheSame() {
        CHECKS.sentence("Promise 4: false, changing nothing, if two of these are the same one: c of 9");
        PathSums x = filled();
        for (int wire = 0; wire < 4; wire++) {
            CHECKS.refusedGate(x, 9, wire, (wire + 1) % 4, wire);
            CHECKS.refusedGate(x, 9, (wire + 1) % 4, wire, wire);
            CHECKS.refusedGate(x, 9, wire, wire, wire);
        }
    }

    private static void tooFewWires() {
        CHECKS.sentence("Promise 4: false, changing nothing: one WIRE has none for a CONTROL, two have none for two");
        for (int kind : TWO_WIRES) {
            for (int b = -1; b <= 2; b++) {
                CHECKS.refusedGate(new PathSums(), kind, 0, b, 2);
            }
        }
        PathSums x = Sums.of(CHECKS, "begin 2 3");
        for (int c = -1; c <= 3; c++) {
            CHECKS.refusedGate(x, 9, 0, 1, c);
        }
    }

    private static void othersCountForNothing() {
        CHECKS.sentence("Promise 4: others count for nothing");
        for (int kind = 0; kind <= 12; kind++) {
            boolean usesB = kind == 1 || kind == 2 || kind == 8 || kind == 9;
            PathSums plain = filled();
            CHECKS.due("kind " + kind, plain.gate(kind, 0, 1, 2), true);
            for (int other : new int[]{0, 1, -1, 4, 7, LEAST, MOST}) {
                PathSums x = filled();
                boolean taken = x.gate(kind, 0, usesB ? 1 : other, kind == 9 ? 2 : other);
                CHECKS.due("kind " + kind + " with " + other, taken, true);
                CHECKS.due("what it shows", Checks.shown(x), Checks.shown(plain));
            }
        }
    }

    private static PathSums full() {
        PathSums x = Sums.of(CHECKS, "begin 3 6");
        Sums.times(CHECKS, x, 23, "10 0");
        return x;
    }

    private static void twentyFourBitsCame() {
        CHECKS.sentence("Promise 4: false, changing nothing, if 24 BITS came (for 10 to 12): the 24th is taken, the 25th is not");
        for (int last = 10; last <= 12; last++) {
            PathSums x = full();
            CHECKS.due("the 24th by " + last, x.gate(last, 0, 0, 0), true);
            CHECKS.due("24 came", x.total(2), 24);
            CHECKS.due("24 are there", x.total(1), (1 << 24) - 1);
            for (int kind = 10; kind <= 12; kind++) {
                CHECKS.refusedGate(x, kind, 0, 0, 0);
                CHECKS.refusedGate(x, kind, 2, 1, 0);
            }
        }
    }

    private static void onlyForTenToTwelve() {
        CHECKS.sentence("Promise 4: if 24 BITS came (for 10 to 12): the kinds 0 to 9 are taken all the same");
        PathSums x = full();
        Sums.go(CHECKS, x, "10 0");
        for (int kind = 0; kind <= 9; kind++) {
            CHECKS.due("kind " + kind, x.gate(kind, 0, 1, 2), true);
        }
        Sums.go(CHECKS, x, "begin 2 0");
        Sums.times(CHECKS, x, 24, "10 0");
        Sums.go(CHECKS, x, "5 0", "1 1 0", "4 1");
        CHECKS.due("the 24th BIT's number", x.term(1 << 23), 3);
    }

    private static void bitsThatWentCameToo() {
        CHECKS.sentence("Promise 4: 24 BITS came: 24 at most in all; numbers of those that are gone stay theirs");
        PathSums x = Sums.of(CHECKS, "10 0", "10 0", "reduce", "10 0");
        CHECKS.due("BITS 0 and 1 went, the next is 2", Checks.wires(x), "4+0");
        CHECKS.due("only that one is there", x.total(1), 4);
        Sums.times(CHECKS, x, 21, "10 0");
        CHECKS.due("reduce() of 22 BITS", x.reduce(), 11);
        CHECKS.due("none is there", x.total(1), 0);
        for (int kind = 10; kind <= 12; kind++) {
            CHECKS.refusedGate(x, kind, 0, 0, 0);
        }
    }

    private static void inputsCameToo() {
        CHECKS.sentence("Promise 4: 24 BITS came: INPUTS are BITS that came");
        for (int n = 1; n <= 6; n++) {
            PathSums x = Sums.of(CHECKS, "open " + n);
            Sums.times(CHECKS, x, 24 - n, "10 0");
            for (int kind = 10; kind <= 12; kind++) {
                CHECKS.refusedGate(x, kind, 0, 0, 0);
            }
        }
    }

    private static void theSumIsEmpty() {
        CHECKS.sentence("Promise 4: false, changing nothing, if the SUM is EMPTY");
        for (int kind = 0; kind <= 12; kind++) {
            CHECKS.refusedGate(Sums.empty(CHECKS), kind, 0, 1, 2);
            CHECKS.refusedGate(Sums.emptyOpen(CHECKS), kind, 0, 1, 2);
            CHECKS.refusedGate(Sums.emptyOpen(CHECKS), kind, 1, 0, 2);
        }
        PathSums notYet = Sums.of(CHECKS, "begin 1 1", "11 0");
        CHECKS.due("it is not EMPTY before reduce(): gate(0, 0, 0, 0)", notYet.gate(0, 0, 0, 0), true);
    }

    private static void xTwice() {
        CHECKS.sentence("Promise 4: 0 x: the VALUE's constant changes: 0 to 1, 1 to 0");
        PathSums x = Sums.of(CHECKS, "open 2", "0 1");
        CHECKS.due("once", Checks.wires(x), "1+0 2+1");
        Sums.go(CHECKS, x, "0 1");
        CHECKS.due("twice", Checks.wires(x), "1+0 2+0");
    }

    private static void controlledByTheSameValue() {
        CHECKS.sentence("Promise 4: 1 x with a CONTROL: the exclusive or of both VALUES: of two that are the same, 0");
        PathSums x = Sums.of(CHECKS, "begin 2 2", "10 0", "1 1 0");
        CHECKS.due("BIT 0 in both, a constant in one", Checks.wires(x), "1+0 1+1");
        Sums.go(CHECKS, x, "1 0 1");
        CHECKS.due("the BIT goes, the constant stays", Checks.wires(x), "0+1 1+1");
        Sums.go(CHECKS, x, "begin 2 3", "1 0 1");
        CHECKS.due("of 1 and 1", Checks.wires(x), "0+0 0+1");
    }

    private static void controlStays() {
        CHECKS.sentence("Promise 4: of 1 the CONTROL is b: its VALUE stays");
        PathSums x = Sums.of(CHECKS, "open 2", "1 1 0");
        CHECKS.due("a is 1, b is 0", Checks.wires(x), "1+0 3+0");
    }

    private static void changePlaces() {
        CHECKS.sentence("Promise 4: 2 the VALUES of two change places (2 of a and b)");
        PathSums x = Sums.of(CHECKS, "open 3", "0 2", "2 0 2");
        CHECKS.due("constants, too", Checks.wires(x), "4+1 2+0 1+0");
        Sums.go(CHECKS, x, "2 2 0");
        CHECKS.due("twice is none", Checks.wires(x), "1+0 2+0 4+1");
    }

    private static void moduloEight() {
        CHECKS.sentence("Promise 4: a number 1 .. 7 (all modulo 8): at 8 the MONOMIAL is not there");
        int[] turns = {4, 2, 1, 6, 7};
        for (int kind = 3; kind <= 7; kind++) {
            PathSums x = Sums.of(CHECKS, "open 1");
            for (int times = 1; times <= 17; times++) {
                Sums.go(CHECKS, x, kind + " 0");
                int due = turns[kind - 3] * times % 8;
                CHECKS.due("kind " + kind + ", " + times + " times, term(1)", x.term(1), due);
                CHECKS.due("kind " + kind + ", " + times + " times, total(3)", x.total(3), due == 0 ? 0 : 1);
            }
        }
        CHECKS.due("t and its inverse", Checks.terms(Sums.of(CHECKS, "open 1", "5 0", "7 0")), "");
        CHECKS.due("s and its inverse", Checks.terms(Sums.of(CHECKS, "open 1", "4 0", "6 0")), "");
        CHECKS.due("z with a CONTROL twice", Checks.terms(Sums.of(CHECKS, "open 2", "8 0 1", "8 1 0")), "");
        CHECKS.due("z with two twice", Checks.terms(Sums.of(CHECKS, "open 3", "9 0 1 2", "9 2 0 1")), "");
    }

    private static void pairsModuloEight() {
        CHECKS.sentence("Promise 4: x + y - 2 * x * y (all modulo 8): what is below 0 is 1 .. 7, too");
        String[] due = {" 4*1 4*2", " 2*1 2*2 4*3", " 1*1 1*2 6*3", " 6*1 6*2 4*3", " 7*1 7*2 2*3"};
        for (int kind = 3; kind <= 7; kind++) {
            PathSums x = Sums.of(CHECKS, "open 2", "1 0 1", kind + " 0");
            CHECKS.due("kind " + kind + " of x + y", Checks.terms(x), due[kind - 3]);
        }
        PathSums x = Sums.of(CHECKS, "open 2", "1 0 1", "5 0", "5 0");
        CHECKS.due("t twice: -4 is 4", Checks.terms(x), " 2*1 2*2 4*3");
        Sums.go(CHECKS, x, "5 0", "5 0");
        CHECKS.due("t four times: -8 is not there", Checks.terms(x), " 4*1 4*2");
    }

    private static void atMostThreeBits() {
        CHECKS.sentence("Promise 4: MONOMIALS: products of at most three different BITS: 8 times one of four is none");
        for (int n = 1; n <= 6; n++) {
            PathSums x = Sums.of(CHECKS, "open " + n);
            for (int i = 1; i < n; i++) {
                Sums.go(CHECKS, x, "1 0 " + i);
            }
            Sums.go(CHECKS, x, "5 0");
            CHECKS.due("t of " + n + " BITS, total(3)", x.total(3), n + n * (n - 1) / 2 + n * (n - 1) * (n - 2) / 6);
            int[] bySize = {0, 1, 6, 4, PathSums.NONE, PathSums.NONE, PathSums.NONE};
            for (int set = 0; set < 1 << n; set++) {
                CHECKS.due("t of " + n + " BITS, term(" + set + ")", x.term(set), bySize[Integer.bitCount(set)]);
            }
        }
    }

    private static void ofNoneToo() {
        CHECKS.sentence("Promise 4: products of at most three different BITS (of none, too)");
        String[] due = {" 4*0", " 2*0", " 1*0", " 6*0", " 7*0", " 4*0", " 4*0"};
        for (int kind = 3; kind <= 9; kind++) {
            CHECKS.due("kind " + kind + " of 1", Checks.terms(Sums.of(CHECKS, "begin 3 7", kind + " 0 1 2")), due[kind - 3]);
        }
        CHECKS.due("t of 1 - x", Checks.terms(Sums.of(CHECKS, "open 1", "0 0", "5 0")), " 1*0 7*1");
    }

    private static void valueZero() {
        CHECKS.sentence("Promise 4: times the VALUE: of a VALUE that is 0 nothing comes");
        for (int kind = 3; kind <= 9; kind++) {
            PathSums x = Sums.of(CHECKS, "begin 3 6", kind + " 0 1 2");
            CHECKS.due("kind " + kind + " of 0", Checks.terms(x), "");
        }
        CHECKS.due("8 of 1 and 0", Checks.terms(Sums.of(CHECKS, "begin 2 1", "8 0 1")), "");
        CHECKS.due("9 of 1, 0 and 1", Checks.terms(Sums.of(CHECKS, "begin 3 5", "9 0 1 2")), "");
        CHECKS.due("9 of 1, 1 and 0", Checks.terms(Sums.of(CHECKS, "begin 3 3", "9 0 1 2")), "");
    }

    private static void sharedBits() {
        CHECKS.sentence("Promise 4: products of different BITS: a BIT times itself is that BIT");
        CHECKS.due("x(x + y)", Checks.terms(Sums.of(CHECKS, "open 2", "1 1 0", "8 0 1")), " 4*1 4*3");
        CHECKS.due("xxx", Checks.terms(Sums.of(CHECKS, "begin 3 0", "10 0", "1 1 0", "1 2 0", "9 0 1 2")), " 4*1");
        CHECKS.due("xx", Checks.terms(Sums.of(CHECKS, "begin 2 0", "10 0", "1 1 0", "8 0 1")), " 4*1");
        CHECKS.due("x(x + y)(x + z)", Checks.terms(Sums.of(CHECKS, "open 3", "1 1 0", "1 2 0", "9 0 1 2")), " 4*1 4*3 4*5 4*7");
    }

    private static void opposites() {
        CHECKS.sentence("Promise 4: 4 times the product: of a VALUE and its opposite nothing comes");
        CHECKS.due("x(1 + x)", Checks.terms(Sums.of(CHECKS, "begin 2 2", "10 0", "1 1 0", "8 0 1")), "");
        CHECKS.due("x(1 + x)y", Checks.terms(Sums.of(CHECKS, "begin 3 2", "10 0", "1 1 0", "10 2", "9 0 1 2")), "");
    }

    private static void hadamardOfConstants() {
        CHECKS.sentence("Promise 4: 10: 4 * y times the VALUE comes: of 0 nothing, of 1 4 * y");
        PathSums x = Sums.of(CHECKS, "begin 2 2", "10 0");
        CHECKS.due("of 0", Checks.terms(x), "");
        CHECKS.due("the BIT is there", x.total(1), 1);
        Sums.go(CHECKS, x, "10 1");
        CHECKS.due("of 1", Checks.terms(x), " 4*2");
    }

    private static void hadamardValueIsY() {
        CHECKS.sentence("Promise 4: 10: the VALUE is y then: its BITS and its constant go");
        PathSums x = Sums.of(CHECKS, "open 2", "1 0 1", "0 0", "10 0");
        CHECKS.due("VALUES", Checks.wires(x), "4+0 2+0");
        CHECKS.due("4 * y * (1 + x0 + x1)", Checks.terms(x), " 4*4 4*5 4*6");
    }

    private static void measuredValueStays() {
        CHECKS.sentence("Promise 4: 11, 12: the VALUE stays; of 12: and 4 * y");
        for (int kind = 11; kind <= 12; kind++) {
            PathSums x = Sums.of(CHECKS, "open 2", "1 0 1", "0 0", kind + " 0");
            CHECKS.due(kind + ", VALUES", Checks.wires(x), "3+1 2+0");
            CHECKS.due(kind + ", MONOMIALS", Checks.terms(x), kind == 11 ? " 4*4 4*5 4*6" : " 4*5 4*6");
            CHECKS.due(kind + ", BITS", x.total(1), 7);
        }
    }

    private static void measuredOfConstants() {
        CHECKS.sentence("Promise 4: what is measured is 0, 1, and only that is kept");
        for (int start = 0; start <= 1; start++) {
            for (int kind = 11; kind <= 12; kind++) {
                PathSums x = Sums.of(CHECKS, "begin 1 " + start, kind + " 0");
                boolean kept = start == kind - 11;
                CHECKS.due(kind + " of " + start, Checks.terms(x), kept ? "" : " 4*1");
                CHECKS.due(kind + " of " + start + ", to it", Checks.amplitude(x, 0, start), kept ? "1 0 0 0 0" : "0 0 0 0 0");
                CHECKS.due(kind + " of " + start + ", elsewhere", Checks.amplitude(x, 0, 1 - start), "0 0 0 0 0");
            }
        }
    }

    private static void halvesOfGates() {
        CHECKS.sentence("Promise 4: h is 1 more (10), 2 more (11, 12), the same (0 to 9, and a refused one)");
        PathSums x = Sums.of(CHECKS, "open 3");
        for (int kind = 0; kind <= 12; kind++) {
            int before = x.halves();
            CHECKS.due("kind " + kind, x.gate(kind, 0, 1, 2), true);
            CHECKS.due("kind " + kind + ", halves()", x.halves() - before, kind < 10 ? 0 : kind == 10 ? 1 : 2);
        }
        int before = x.halves();
        CHECKS.due("gate(10, 3, 0, 0)", x.gate(10, 3, 0, 0), false);
        CHECKS.due("halves()", x.halves(), before);
    }
}
