/** Promise 4: gate. Terms are written number*set, as Checks.terms tells them. */
public final class GateTest {
    private static final Checks CHECKS = new Checks();

    public static void main(String[] args) {
        xAndSwap();
        turnsOfOneBit();
        turnsOfConstants();
        turnsOfManyBits();
        controlledZ();
        twiceControlledZ();
        hadamard();
        measured();
        turnsAddUpModuloEight();
        otherArgumentsCountForNothing();
        refusesKinds();
        refusesWires();
        refusesAfterTwentyFourBits();
        refusesWhenEmpty();
        CHECKS.end();
    }

    private static PathSums opened(int wires) {
        PathSums x = new PathSums();
        CHECKS.due("open(" + wires + ")", x.open(wires), true);
        return x;
    }

    private static void xAndSwap() {
        PathSums x = opened(3);
        CHECKS.gates(x, new int[]{0, 1, 0, 0});
        CHECKS.due("x of 1", Checks.wires(x), "1+0 2+1 4+0");
        CHECKS.gates(x, new int[]{1, 0, 1, 0});
        CHECKS.due("x of 0 with the control 1", Checks.wires(x), "3+1 2+1 4+0");
        CHECKS.gates(x, new int[]{2, 0, 2, 0});
        CHECKS.due("0 and 2 change places", Checks.wires(x), "4+0 2+1 3+1");
        CHECKS.gates(x, new int[]{1, 2, 1, 0});
        CHECKS.due("x of 2 with the control 1", Checks.wires(x), "4+0 2+1 1+0");
        CHECKS.gates(x, new int[]{0, 1, 0, 0});
        CHECKS.due("x of 1 again", Checks.wires(x), "4+0 2+0 1+0");
        CHECKS.due("no terms", Checks.terms(x), "");
        CHECKS.due("no halves", x.halves(), 0);
        CHECKS.due("1 to 4", Checks.amplitude(x, 1, 4), "1 0 0 0 0");
        CHECKS.due("1 to 1", Checks.amplitude(x, 1, 1), "0 0 0 0 0");
    }

    private static void turnsOfOneBit() {
        int[] turns = {4, 2, 1, 6, 7};
        int[] pairs = {0, 4, 6, 4, 2};
        int[] triples = {0, 0, 4, 0, 4};
        for (int i = 0; i < 5; i++) {
            PathSums x = opened(3);
            CHECKS.gates(x, new int[]{3 + i, 1, 0, 0});
            CHECKS.due("kind " + (3 + i), Checks.terms(x), " " + turns[i] + "*2");
            CHECKS.due("its wires", Checks.wires(x), "1+0 2+0 4+0");
            x.open(3);
            CHECKS.gates(x, new int[]{1, 1, 0, 0}, new int[]{3 + i, 1, 0, 0});
            CHECKS.due("of two, 1", x.term(1), turns[i]);
            CHECKS.due("of two, 2", x.term(2), turns[i]);
            CHECKS.due("of two, 3", x.term(3), pairs[i]);
            CHECKS.due("of two, 4", x.term(4), 0);
            x.open(3);
            CHECKS.gates(x, new int[]{1, 1, 0, 0}, new int[]{1, 1, 2, 0}, new int[]{3 + i, 1, 0, 0});
            for (int set = 1; set < 8; set++) {
                int[] bySize = {0, turns[i], pairs[i], triples[i]};
                CHECKS.due("of three, " + set, x.term(set), bySize[Integer.bitCount(set)]);
            }
        }
    }

    private static void turnsOfConstants() {
        int[] turns = {4, 2, 1, 6, 7};
        for (int i = 0; i < 5; i++) {
            PathSums x = new PathSums();
            x.begin(2, 2);
            CHECKS.gates(x, new int[]{3 + i, 0, 0, 0});
            CHECKS.due("kind " + (3 + i) + " of 0", Checks.terms(x), "");
            CHECKS.gates(x, new int[]{3 + i, 1, 0, 0});
            CHECKS.due("kind " + (3 + i) + " of 1", Checks.terms(x), " " + turns[i] + "*0");
            x.open(1);
            CHECKS.gates(x, new int[]{0, 0, 0, 0}, new int[]{3 + i, 0, 0, 0});
            CHECKS.due("kind " + (3 + i) + " of 1 - x", Checks.terms(x), " " + turns[i] + "*0 " + (8 - turns[i]) + "*1");
        }
        PathSums x = opened(2);
        CHECKS.gates(x, new int[]{1, 0, 1, 0}, new int[]{0, 0, 0, 0}, new int[]{5, 0, 0, 0});
        CHECKS.due("t of 1 - (x + y - 2xy)", Checks.terms(x), " 1*0 7*1 7*2 2*3");
    }

    private static void turnsOfManyBits() {
        PathSums x = opened(6);
        for (int i = 1; i < 6; i++) {
            CHECKS.gates(x, new int[]{1, 0, i, 0});
        }
        CHECKS.gates(x, new int[]{5, 0, 0, 0});
        CHECKS.due("t of six: 6 + 15 + 20 terms", x.total(3), 41);
        for (int set = 1; set < 64; set++) {
            int[] bySize = {0, 1, 6, 4, -1, -1, -1};
            CHECKS.due("t of six, " + set, x.term(set), bySize[Integer.bitCount(set)]);
        }
    }

    private static void controlledZ() {
        PathSums x = opened(2);
        CHECKS.gates(x, new int[]{8, 0, 1, 0});
        CHECKS.due("xy", Checks.terms(x), " 4*3");
        CHECKS.gates(x, new int[]{8, 1, 0, 0});
        CHECKS.due("twice", Checks.terms(x), "");
        CHECKS.gates(x, new int[]{1, 1, 0, 0}, new int[]{8, 0, 1, 0});
        CHECKS.due("x(x + y)", Checks.terms(x), " 4*1 4*3");
        x.open(2);
        CHECKS.gates(x, new int[]{0, 0, 0, 0}, new int[]{0, 1, 0, 0}, new int[]{8, 0, 1, 0});
        CHECKS.due("(1 + x)(1 + y)", Checks.terms(x), " 4*0 4*1 4*2 4*3");
        x.begin(2, 3);
        CHECKS.gates(x, new int[]{8, 0, 1, 0});
        CHECKS.due("of 1 and 1", Checks.terms(x), " 4*0");
        x.begin(2, 1);
        CHECKS.gates(x, new int[]{8, 0, 1, 0});
        CHECKS.due("of 1 and 0", Checks.terms(x), "");
    }

    private static void twiceControlledZ() {
        PathSums x = opened(3);
        CHECKS.gates(x, new int[]{9, 2, 0, 1});
        CHECKS.due("xyz", Checks.terms(x), " 4*7");
        x.open(3);
        CHECKS.gates(x, new int[]{1, 1, 0, 0}, new int[]{1, 2, 0, 0}, new int[]{9, 0, 1, 2});
        CHECKS.due("x(x + y)(x + z)", Checks.terms(x), " 4*1 4*3 4*5 4*7");
        x.open(3);
        CHECKS.gates(x, new int[]{0, 0, 0, 0}, new int[]{0, 1, 0, 0}, new int[]{0, 2, 0, 0}, new int[]{9, 0, 1, 2});
        CHECKS.due("(1 + x)(1 + y)(1 + z)", Checks.terms(x), " 4*0 4*1 4*2 4*3 4*4 4*5 4*6 4*7");
        x.open(4);
        CHECKS.gates(x, new int[]{1, 0, 3, 0}, new int[]{1, 1, 3, 0}, new int[]{9, 0, 1, 2});
        CHECKS.due("(x + u)(y + u)z", Checks.terms(x), " 4*7 4*12 4*13 4*14");
        x.begin(3, 7);
        CHECKS.gates(x, new int[]{9, 0, 1, 2});
        CHECKS.due("of 1, 1 and 1", Checks.terms(x), " 4*0");
    }

    private static void hadamard() {
        PathSums x = opened(2);
        CHECKS.gates(x, new int[]{1, 0, 1, 0}, new int[]{0, 0, 0, 0}, new int[]{10, 0, 0, 0});
        CHECKS.due("4y(1 + x0 + x1)", Checks.terms(x), " 4*4 4*5 4*6");
        CHECKS.due("the VALUE is y", Checks.wires(x), "4+0 2+0");
        CHECKS.due("halves()", x.halves(), 1);
        CHECKS.due("total(1)", x.total(1), 7);
        CHECKS.due("total(2)", x.total(2), 3);
        CHECKS.gates(x, new int[]{10, 1, 0, 0});
        CHECKS.due("4y(1 + x0 + x1) + 4 y' x1", Checks.terms(x), " 4*4 4*5 4*6 4*10");
        CHECKS.due("halves()", x.halves(), 2);
        x.begin(1, 0);
        CHECKS.gates(x, new int[]{10, 0, 0, 0});
        CHECKS.due("h of 0", Checks.terms(x), "");
        CHECKS.due("its VALUE", Checks.wires(x), "1+0");
        x.begin(1, 1);
        CHECKS.gates(x, new int[]{10, 0, 0, 0});
        CHECKS.due("h of 1", Checks.terms(x), " 4*1");
        CHECKS.due("its VALUE", Checks.wires(x), "1+0");
    }

    private static void measured() {
        PathSums x = opened(2);
        CHECKS.gates(x, new int[]{1, 0, 1, 0}, new int[]{0, 0, 0, 0}, new int[]{11, 0, 0, 0});
        CHECKS.due("0 of 1 + x0 + x1", Checks.terms(x), " 4*4 4*5 4*6");
        CHECKS.due("the VALUE stays", Checks.wires(x), "3+1 2+0");
        CHECKS.due("halves()", x.halves(), 2);
        CHECKS.due("total(1)", x.total(1), 7);
        CHECKS.gates(x, new int[]{12, 0, 0, 0});
        CHECKS.due("1 of 1 + x0 + x1", Checks.terms(x), " 4*4 4*5 4*6 4*9 4*10");
        CHECKS.due("halves()", x.halves(), 4);
        CHECKS.due("total(2)", x.total(2), 4);
        x.begin(1, 1);
        CHECKS.gates(x, new int[]{12, 0, 0, 0});
        CHECKS.due("1 of 1", Checks.terms(x), "");
        CHECKS.due("1 of 1, to 1", Checks.amplitude(x, 0, 1), "1 0 0 0 0");
        x.begin(1, 0);
        CHECKS.gates(x, new int[]{12, 0, 0, 0});
        CHECKS.due("1 of 0", Checks.terms(x), " 4*1");
        CHECKS.due("1 of 0, to 0", Checks.amplitude(x, 0, 0), "0 0 0 0 0");
    }

    private static void turnsAddUpModuloEight() {
        PathSums x = opened(1);
        for (int i = 1; i <= 17; i++) {
            CHECKS.gates(x, new int[]{5, 0, 0, 0});
            CHECKS.due("t " + i + " times", x.term(1), i % 8);
            CHECKS.due("t " + i + " times, total(3)", x.total(3), i % 8 == 0 ? 0 : 1);
        }
        CHECKS.gates(x, new int[]{7, 0, 0, 0});
        CHECKS.due("t 17 times and its inverse", Checks.terms(x), "");
    }

    private static void otherArgumentsCountForNothing() {
        int[] odd = {-1, 0, 1, 99, Integer.MIN_VALUE, Integer.MAX_VALUE};
        for (int kind = 0; kind <= 12; kind++) {
            for (int other : odd) {
                PathSums x = opened(3);
                boolean usesB = kind == 1 || kind == 2 || kind == 8 || kind == 9;
                CHECKS.due("kind " + kind + " with " + other, x.gate(kind, 0, usesB ? 1 : other, kind == 9 ? 2 : other), true);
            }
        }
    }

    private static PathSums filled() {
        PathSums x = opened(4);
        CHECKS.gates(x, new int[]{1, 0, 1, 0}, new int[]{0, 2, 0, 0}, new int[]{10, 1, 0, 0}, new int[]{5, 0, 0, 0});
        return x;
    }

    private static void refusesKinds() {
        PathSums x = filled();
        for (int kind : new int[]{-1, -2, 13, 14, 100, Integer.MIN_VALUE, Integer.MAX_VALUE}) {
            CHECKS.refusedGate(x, kind, 0, 1, 2);
        }
    }

    private static void refusesWires() {
        PathSums x = filled();
        for (int none : new int[]{-1, 4, 5, 6, 32, Integer.MIN_VALUE, Integer.MAX_VALUE}) {
            for (int kind = 0; kind <= 12; kind++) {
                CHECKS.refusedGate(x, kind, none, 1, 2);
            }
            for (int kind : new int[]{1, 2, 8, 9}) {
                CHECKS.refusedGate(x, kind, 0, none, 2);
            }
            CHECKS.refusedGate(x, 9, 0, 1, none);
        }
        for (int kind : new int[]{1, 2, 8, 9}) {
            CHECKS.refusedGate(x, kind, 3, 3, 2);
        }
        CHECKS.refusedGate(x, 9, 3, 2, 3);
        CHECKS.refusedGate(x, 9, 3, 2, 2);
        CHECKS.refusedGate(x, 9, 1, 1, 1);
        PathSums one = new PathSums();
        for (int kind : new int[]{1, 2, 8, 9}) {
            CHECKS.refusedGate(one, kind, 0, 1, 2);
            CHECKS.refusedGate(one, kind, 0, 0, 0);
        }
    }

    private static void refusesAfterTwentyFourBits() {
        PathSums x = new PathSums();
        for (int i = 0; i < 24; i++) {
            CHECKS.gates(x, new int[]{10 + i % 3, 0, 0, 0});
        }
        CHECKS.due("total(2)", x.total(2), 24);
        CHECKS.due("total(1)", x.total(1), (1 << 24) - 1);
        for (int kind = 10; kind <= 12; kind++) {
            CHECKS.refusedGate(x, kind, 0, 0, 0);
        }
        CHECKS.gates(x, new int[]{0, 0, 0, 0}, new int[]{5, 0, 0, 0});
        x.begin(1, 0);
        for (int i = 0; i < 24; i++) {
            CHECKS.gates(x, new int[]{10, 0, 0, 0});
        }
        CHECKS.due("the last BIT is 23", x.wire(0, 0), 1 << 23);
        CHECKS.due("reduce()", x.reduce(), 12);
        CHECKS.due("all went, two by two", x.total(1), 0);
        CHECKS.due("24 came all the same", x.total(2), 24);
        CHECKS.refusedGate(x, 10, 0, 0, 0);
        for (int wires = 1; wires <= 6; wires++) {
            x.open(wires);
            for (int i = wires; i < 24; i++) {
                CHECKS.gates(x, new int[]{11, 0, 0, 0});
            }
            CHECKS.refusedGate(x, 11, 0, 0, 0);
        }
    }

    private static void refusesWhenEmpty() {
        PathSums x = new PathSums();
        x.begin(3, 5);
        CHECKS.gates(x, new int[]{11, 0, 0, 0});
        CHECKS.due("reduce()", x.reduce(), 1);
        CHECKS.due("EMPTY", x.total(5), 1);
        for (int kind = 0; kind <= 12; kind++) {
            CHECKS.refusedGate(x, kind, 0, 1, 2);
        }
    }
}
