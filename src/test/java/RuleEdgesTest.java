/** Promises 5 and 6, and the Terms of RULES: each sentence that names a boundary case has a test of its own. */
public final class RuleEdgesTest {
    private static final Checks CHECKS = new Checks();
    private static final int LEAST = Integer.MIN_VALUE;
    private static final int MOST = Integer.MAX_VALUE;

    public static void main(String[] args) {
        nothingToDo();
        howManyWereDone();
        emptyStaysEmpty();
        noRuleForAnInput();
        noRuleForABitInAValue();
        ruleOne();
        ruleTwo();
        ruleTwoOnEachWire();
        ruleTwoInputsStay();
        ruleTwoOnlyForFourAlone();
        ruleThreeNotOfInputsAlone();
        ruleThreeWithInputs();
        ruleThreeOfOneBit();
        ruleThreeTheGreatest();
        ruleThreeInProducts();
        ruleThreeInTurns();
        ruleFourOfNoBits();
        ruleFourOfInputsAlone();
        ruleFourOfBits();
        ruleFourModuloEight();
        noRuleForOddNumbers();
        noRuleForOtherPairs();
        noRuleForTriples();
        theLeastBitFirst();
        asLongAsThereIsOne();
        behindEmptyNoneIsDone();
        zIsNoneButForThree();
        noSuchRule();
        noSuchWhat();
        sinceItWasBegun();
        ruleKeptByRefusedCalls();
        rulesGoOn();
        mostRules();
        CHECKS.end();
    }

    private static PathSums reduced(String rules, String wires, String terms, int halves, String... calls) {
        PathSums x = Sums.of(CHECKS, calls);
        CHECKS.due("reduce()", x.reduce(), rules.chars().filter(c -> c == '[').count());
        CHECKS.due("RULES", Checks.rules(x), rules);
        CHECKS.due("VALUES", Checks.wires(x), wires);
        CHECKS.due("MONOMIALS", Checks.terms(x), terms);
        CHECKS.due("halves()", x.halves(), halves);
        CHECKS.refused("reduce() again", x, y -> y.reduce() != 0);
        return x;
    }

    private static void nothingToDo() {
        CHECKS.sentence("Promise 5: how many RULES were done: 0 if there is none to do, and nothing changes");
        reduced("", "0+0", "", 0);
        reduced("", "0+1 0+1 0+1 0+1 0+1 0+1", "", 0, "begin 6 63");
        reduced("", "1+0 2+0 4+0 8+0 16+0 32+0", "", 0, "open 6");
        reduced("", "1+0", " 1*1", 0, "open 1", "5 0");
    }

    private static void howManyWereDone() {
        CHECKS.sentence("Promise 5: how many RULES were done: by this call alone");
        PathSums x = Sums.of(CHECKS, "11 0", "11 0", "11 0");
        CHECKS.due("the first call", x.reduce(), 3);
        CHECKS.due("the second call", x.reduce(), 0);
        Sums.go(CHECKS, x, "11 0");
        CHECKS.due("the third call", x.reduce(), 1);
        CHECKS.due("total(4)", x.total(4), 4);
    }

    private static void emptyStaysEmpty() {
        CHECKS.sentence("Promise 5: of an EMPTY SUM no RULE is done");
        for (PathSums x : new PathSums[]{Sums.empty(CHECKS), Sums.emptyOpen(CHECKS)}) {
            String before = Checks.shown(x);
            CHECKS.due("reduce()", x.reduce(), 0);
            CHECKS.due("what it shows", Checks.shown(x), before);
        }
    }

    private static void noRuleForAnInput() {
        CHECKS.sentence("Promise 5: RULES for a BIT y that is no INPUT");
        PathSums x = reduced("[3 2 1]", "0+0", "", 1, "open 1", "10 0", "11 0");
        CHECKS.due("an INPUT that is nowhere stays (not 1)", x.total(1), 1);
        CHECKS.due("from 1 to 0", Checks.amplitude(x, 1, 0), "1 0 0 0 1");
        x = reduced("[3 2 1]", "0+0", " 4*1", 1, "open 1", "3 0", "10 0", "11 0");
        CHECKS.due("an INPUT with 4 stays (not 2)", x.total(5), 0);
        CHECKS.due("from 1 to 0", Checks.amplitude(x, 1, 0), "-1 0 0 0 1");
        reduced("", "2+0", " 4*3", 1, "open 1", "10 0");
        x = reduced("[3 2 1]", "0+0", " 2*1", 1, "open 1", "4 0", "10 0", "11 0");
        CHECKS.due("an INPUT with 2 stays (not 4)", Checks.amplitude(x, 1, 0), "0 0 1 0 1");
    }

    private static void noRuleForABitInAValue() {
        CHECKS.sentence("Promise 5: RULES for a BIT y that is in no VALUE");
        reduced("", "1+0", "", 1, "begin 1 0", "10 0");
        reduced("", "1+0", " 4*1", 1, "begin 1 1", "10 0");
        reduced("", "1+0", " 2*1", 1, "begin 1 0", "10 0", "4 0");
        reduced("", "2+0 1+0", " 4*3", 2, "begin 2 0", "10 0", "1 1 0", "10 0");
        reduced("", "0+0 0+0 0+0 0+0 0+0 1+0", "", 1, "begin 6 0", "10 5");
    }

    private static void ruleOne() {
        CHECKS.sentence("Promise 5: 1: there is none: y goes, h is 2 less");
        PathSums x = reduced("[1 0 -1]", "0+0", "", 0, "11 0");
        CHECKS.due("it went", x.total(1), 0);
        CHECKS.due("it came", x.total(2), 1);
        x = reduced("[1 0 -1]", "2+0", " 4*2", 1, "begin 1 1", "12 0", "10 0");
        CHECKS.due("the other stays", x.total(1), 2);
    }

    private static void ruleTwo() {
        CHECKS.sentence("Promise 5: 2: Q is 4: all BITS go (in VALUES, too), all MONOMIALS, h is 0, the SUM is EMPTY (constants stay)");
        PathSums x = reduced("[2 1 -1]", "0+1 0+1", "", 0, "begin 2 1", "10 1", "5 1", "0 1", "11 0");
        CHECKS.due("BITS", x.total(1), 0);
        CHECKS.due("how many came", x.total(2), 2);
        CHECKS.due("EMPTY", x.total(5), 1);
        x = reduced("[2 0 -1]", "0+1", "", 0, "begin 1 1", "5 0", "11 0");
        CHECKS.due("EMPTY, that of no BIT goes, too", x.total(3), 0);
    }

    private static void ruleTwoOnEachWire() {
        CHECKS.sentence("Promise 5: 2: all BITS but INPUTS go (in VALUES, too): of each WIRE");
        for (int wire = 0; wire < 6; wire++) {
            int measured = (wire + 1) % 6;
            PathSums x = Sums.of(CHECKS, "begin 6 63", "10 " + wire, "0 " + wire, "11 " + measured);
            CHECKS.due("the BIT in the VALUE of " + wire, x.wire(wire, 0), 1);
            CHECKS.due("reduce()", x.reduce(), 1);
            CHECKS.due("VALUES", Checks.wires(x), "0+1 0+1 0+1 0+1 0+1 0+1");
        }
    }

    private static void ruleTwoInputsStay() {
        CHECKS.sentence("Promise 5: 2: all BITS but INPUTS go (in VALUES, too)");
        // wire 1 is b6 + x2 + 1 when the SUM gets EMPTY
        PathSums x = reduced("[3 4 3][2 5 -1]", "0+0 4+1 4+0", "", 0,
                "open 3", "10 0", "11 0", "12 0", "10 1", "1 1 2", "0 1");
        CHECKS.due("INPUTS are there", x.total(1), 7);
        CHECKS.due("how many came", x.total(2), 7);
        CHECKS.due("BEGUN open still", x.total(6), 1);
    }

    private static void ruleTwoOnlyForFourAlone() {
        CHECKS.sentence("Promise 5: 2: Q is 4: not 4 and some BITS");
        PathSums x = reduced("[3 1 0]", "0+1", "", 1, "begin 1 0", "10 0", "12 0");
        CHECKS.due("4 and a BIT", x.total(5), 0);
        x = reduced("", "1+0", " 4*2 4*3", 2, "open 1", "12 0");
        CHECKS.due("4 and an INPUT", x.total(5), 0);
    }

    private static void ruleThreeNotOfInputsAlone() {
        CHECKS.sentence("Promise 5: 3: Q is 4 times some BITS, at least one of them no INPUT");
        PathSums x = reduced("", "1+0", " 4*3", 2, "open 1", "11 0");
        CHECKS.due("from 0 to 0", Checks.amplitude(x, 0, 0), "1 0 0 0 0");
        CHECKS.due("from 1 to 1", Checks.amplitude(x, 1, 1), "0 0 0 0 0");
        reduced("", "3+0 2+0", " 4*5 4*6", 2, "open 2", "1 0 1", "11 0");
        reduced("", "3+0 2+0", " 4*4 4*5 4*6", 2, "open 2", "1 0 1", "12 0");
    }

    private static void ruleThreeWithInputs() {
        CHECKS.sentence("Promise 5: 3: z is everywhere, in VALUES too, the exclusive or of the other ones, and of 1 with that 4");
        // wire 0 is b2 + x1 and must be 0: b2 is x1, so that 4*b2*x0 is 4*x0*x1
        reduced("[3 3 2]", "0+0 2+0", " 4*3", 1, "open 2", "10 0", "1 0 1", "11 0");
        // it must be 1: b2 is x1 + 1
        reduced("[3 3 2]", "0+1 2+0", " 4*1 4*3", 1, "open 2", "10 0", "1 0 1", "12 0");
        PathSums x = reduced("[3 1 2]", "1+0", "", 0, "open 1", "10 0", "10 0");
        CHECKS.due("y and z go", x.total(1), 1);
    }

    private static void ruleThreeOfOneBit() {
        CHECKS.sentence("Promise 5: 3: of z alone: it is 0, and 1 with that 4");
        reduced("[3 0 1]", "0+0", "", 0, "begin 1 0", "10 0", "10 0");
        reduced("[3 0 1]", "0+1", "", 0, "begin 1 1", "10 0", "10 0");
        reduced("[3 1 0]", "0+0", "", 1, "begin 1 0", "10 0", "11 0");
        reduced("[3 1 0]", "0+1", " 4*0", 1, "begin 1 1", "10 0", "12 0");
    }

    private static void ruleThreeTheGreatest() {
        CHECKS.sentence("Promise 5: 3: z the greatest of these that is no INPUT");
        PathSums x = reduced("[3 3 2]", "0+0 2+0 3+0", "", 3,
                "begin 3 0", "10 0", "10 1", "10 2", "1 0 1", "1 0 2", "11 0");
        CHECKS.due("the others stay", x.total(1), 3);
        // 4*b0*(m1 + m2 + b3): above y
        reduced("[3 0 3]", "6+0", "", 4, "begin 1 0", "10 0", "11 0", "11 0", "10 0");
        // 4*m2*(b0 + b1): the greatest is in no VALUE, the other one is
        reduced("[3 2 1]", "1+0 8+0", " 1*1 4*9", 3, "begin 2 0", "10 0", "10 1", "5 1", "1 0 1", "11 0", "1 0 1", "10 1");
    }

    private static void ruleThreeInProducts() {
        CHECKS.sentence("Promise 5: 3: z is everywhere the exclusive or: in products of three, too");
        String[] begin = {"begin 3 0", "10 0", "10 1", "10 2", "9 0 1 2", "1 2 1", "11 2"};
        // 4*b0*b1*b2 with b2 as b1
        reduced("[3 3 2]", "1+0 2+0 0+0", " 4*3", 3, begin);
        begin[6] = "12 2";
        // with b2 as b1 + 1
        reduced("[3 3 2]", "1+0 2+0 0+1", "", 3, begin);
    }

    private static void ruleThreeInTurns() {
        CHECKS.sentence("Promise 5: 3: z is everywhere the exclusive or: as a number, x + y - 2 * x * y, and so on");
        // b3 + 4*b3*x2, then b3 is x0 + x1 + 1: t of it is 1 - x0 - x1 + 2*x0*x1
        reduced("[3 4 3]", "1+0 2+0 0+1", " 1*0 7*1 7*2 2*3 4*4 4*5 4*6", 1,
                "open 3", "10 2", "5 2", "1 2 0", "1 2 1", "12 2");
        // b4 + 4*b4*x3, then b4 is x0 + x1 + x2
        reduced("[3 5 4]", "1+0 2+0 4+0 0+0", " 1*1 1*2 6*3 1*4 6*5 6*6 4*7 4*9 4*10 4*12", 1,
                "open 4", "10 3", "5 3", "1 3 0", "1 3 1", "1 3 2", "11 3");
    }

    private static void ruleFourOfNoBits() {
        CHECKS.sentence("Promise 5: 4: Q is 2 or 6: y goes, 1 (of 6: 7) comes, h is 1 less");
        String[] calls = {"begin 2 0", "10 0", "10 1", "4 0", "1 0 1", "10 1", "11 1", "11 0"};
        // 2*b0 + 4*b1*b2 + 4*m3*b2 + 4*m4*(b0 + b1): b2 is 0, b1 is b0
        PathSums x = reduced("[3 3 2][3 4 1][4 0 -1]", "0+0 0+0", " 1*0", 2, calls);
        CHECKS.due("from 0 to 0", Checks.amplitude(x, 0, 0), "0 1 0 0 2");
        CHECKS.due("no BIT is there", x.total(1), 0);
        calls[3] = "6 0";
        x = reduced("[3 3 2][3 4 1][4 0 -1]", "0+0 0+0", " 7*0", 2, calls);
        CHECKS.due("from 0 to 0", Checks.amplitude(x, 0, 0), "0 0 0 -1 2");
    }

    private static void ruleFourOfInputsAlone() {
        CHECKS.sentence("Promise 5: 4: and perhaps 4 times some BITS: INPUTS alone, too");
        String[] calls = {"open 2", "10 0", "10 1", "4 0", "1 0 1", "10 1", "11 1", "11 0"};
        // b2*(2 + 4*x0) and 4*b3*x1, b3 is b2: 1 + 6*(x0 + x1 - 2*x0*x1)
        reduced("[3 5 4][3 6 3][4 2 -1]", "0+0 0+0", " 1*0 6*1 6*2 4*3", 2, calls);
        calls[3] = "6 0";
        reduced("[3 5 4][3 6 3][4 2 -1]", "0+0 0+0", " 7*0 2*1 2*2 4*3", 2, calls);
    }

    private static void ruleFourOfBits() {
        CHECKS.sentence("Promise 5: 4: 1 (of 6: 7) comes to the POLYNOMIAL and 6 (of 6: 2) times the exclusive or of these BITS");
        reduced("[4 0 -1]", "2+0", " 1*0 6*2", 1, "begin 1 0", "10 0", "4 0", "10 0");
        reduced("[4 0 -1]", "2+0", " 7*0 2*2", 1, "begin 1 0", "10 0", "6 0", "10 0");
        // 2 and 4 are 6
        reduced("[4 0 -1]", "2+0", " 7*0 2*2", 1, "begin 1 1", "10 0", "4 0", "10 0");
        // b1*(4*x0 + 2 + 4*b2)
        reduced("[4 1 -1]", "4+0", " 1*0 6*1 6*4 4*5", 1, "open 1", "10 0", "4 0", "10 0");
    }

    private static void ruleFourModuloEight() {
        CHECKS.sentence("Promise 5: 4: what comes to the POLYNOMIAL comes modulo 8: 1 and 7 are none");
        reduced("[4 0 -1][4 2 -1]", "2+0 8+0", " 6*2 2*8", 2,
                "begin 2 0", "10 0", "4 0", "10 0", "10 1", "6 1", "10 1");
        // 1 + 6*b1, and 2*b1 was there
        reduced("[4 0 -1]", "2+0", " 1*0", 1, "begin 1 0", "10 0", "4 0", "10 0", "4 0");
    }

    private static void noRuleForOddNumbers() {
        CHECKS.sentence("Promise 5: no RULE: Q has 1, 3, 5 or 7");
        String[][] turns = {{"5 0", "5 0", "7 0"}, {"5 0", "4 0", "0 0"}, {"5 0", "3 0", "0 0"}, {"7 0", "0 0", "0 0"}};
        int[] numbers = {1, 3, 5, 7};
        for (int i = 0; i < 4; i++) {
            PathSums x = Sums.of(CHECKS, "begin 1 0", "10 0", turns[i][0], turns[i][1], turns[i][2]);
            CHECKS.due("its number", x.term(1), numbers[i]);
            Sums.go(CHECKS, x, "10 0");
            CHECKS.due(numbers[i] + " and a BIT", x.reduce(), 0);
            CHECKS.due("both are there", x.total(1), 3);
            Sums.go(CHECKS, x, "11 0");
            CHECKS.due(numbers[i] + " alone, behind 3 for the others", x.reduce(), 1);
            CHECKS.due("it is there", x.total(1), 1);
        }
    }

    private static void noRuleForOtherPairs() {
        CHECKS.sentence("Promise 5: no RULE: Q has 2 or 6 times a BIT");
        String[] calls = {"begin 2 0", "10 0", "10 1", "1 1 0", "5 1", "1 1 0", "7 0", "10 0"};
        PathSums x = Sums.of(CHECKS, calls);
        CHECKS.due("6 of a pair", x.term(3), 6);
        CHECKS.due("nothing else", x.term(1), 0);
        CHECKS.due("reduce()", x.reduce(), 0);
        calls[4] = "7 1";
        calls[6] = "5 0";
        x = Sums.of(CHECKS, calls);
        CHECKS.due("2 of a pair", x.term(3), 2);
        CHECKS.due("reduce()", x.reduce(), 0);
        Sums.go(CHECKS, x, "begin 2 0", "10 0", "10 1", "1 1 0", "5 1", "1 1 0", "5 0", "10 0");
        CHECKS.due("6 of a pair, and 2", x.term(1), 2);
        CHECKS.due("reduce()", x.reduce(), 0);
    }

    private static void noRuleForTriples() {
        CHECKS.sentence("Promise 5: no RULE: Q has a product of two BITS");
        PathSums x = Sums.of(CHECKS, "begin 3 0", "10 0", "10 1", "10 2", "9 0 1 2", "10 0");
        CHECKS.due("4 times two, and a BIT", x.reduce(), 0);
        Sums.go(CHECKS, x, "begin 3 0", "10 0", "10 1", "10 2", "9 0 1 2", "4 0", "10 0");
        CHECKS.due("2 and 4 times two, and a BIT", x.reduce(), 0);
        Sums.go(CHECKS, x, "begin 3 0", "10 0", "10 1", "10 2", "9 0 1 2", "3 0", "10 0", "11 0");
        CHECKS.due("4 and 4 times two, behind 3 for the others", x.reduce(), 1);
        CHECKS.due("it is there", x.total(1), 7);
    }

    private static void theLeastBitFirst() {
        CHECKS.sentence("Promise 5: REDUCED: it is done for the least such BIT");
        reduced("[1 0 -1][1 1 -1][1 2 -1]", "0+0", "", 0, "11 0", "11 0", "11 0");
        // BIT 0 is bound, BIT 1 is bound then by what is left, BIT 3 was free all along
        reduced("[3 0 2][1 3 -1]", "2+0 0+1", " 4*2", 2, "begin 2 2", "10 0", "12 0", "10 0", "12 1");
        reduced("[4 0 -1][4 1 -1]", "4+0", " 2*4", 1, "begin 1 0", "10 0", "4 0", "10 0", "10 0");
    }

    private static void asLongAsThereIsOne() {
        CHECKS.sentence("Promise 5: REDUCED: as long as there is a BIT for which one can be done: one below, too");
        // m5 makes b4 b3, so that b3 is in no VALUE: b6 is x1 + x2
        reduced("[3 5 4][3 3 6]", "1+0 0+0 6+0", "", 1, "open 3", "10 1", "10 2", "1 1 2", "11 1", "10 2");
        PathSums x = new PathSums();
        Sums.times(CHECKS, x, 24, "10 0");
        CHECKS.due("h 24 times, reduce()", x.reduce(), 12);
        CHECKS.due("no BIT is there", x.total(1), 0);
        CHECKS.due("halves()", x.halves(), 0);
    }

    private static void behindEmptyNoneIsDone() {
        CHECKS.sentence("Promise 5: the SUM is EMPTY: no BIT is there for another RULE");
        reduced("[1 0 -1][2 1 -1]", "0+0", "", 0, "begin 1 0", "11 0", "12 0");
        reduced("[2 0 -1]", "0+0", "", 0, "begin 1 0", "12 0", "11 0");
        reduced("[2 0 -1]", "0+0", "", 0, "begin 1 0", "12 0", "12 0");
    }

    private static void zIsNoneButForThree() {
        CHECKS.sentence("Promise 6: what 0: its kind 1 .. 4, 1: y, 2: z (NONE but for 3)");
        PathSums x = Sums.of(CHECKS, "begin 2 2", "12 1", "10 0", "10 0", "10 0", "4 0", "10 0", "11 1", "reduce");
        int[][] due = {{1, 0, -1}, {3, 1, 2}, {4, 3, -1}, {2, 5, -1}};
        CHECKS.due("total(4)", x.total(4), 4);
        for (int i = 0; i < 4; i++) {
            for (int what = 0; what < 3; what++) {
                CHECKS.due("rule(" + i + ", " + what + ")", x.rule(i, what), due[i][what]);
            }
        }
    }

    private static void noSuchRule() {
        CHECKS.sentence("Promise 6: NONE if there is none such");
        for (PathSums x : new PathSums[]{new PathSums(), Sums.used(CHECKS), Sums.empty(CHECKS)}) {
            int done = x.total(4);
            for (int i : new int[]{-1, -2, done, done + 1, 23, 24, 25, 32, LEAST, MOST}) {
                for (int what = 0; what < 3; what++) {
                    CHECKS.due(done + " done, rule(" + i + ", " + what + ")", x.rule(i, what), PathSums.NONE);
                }
            }
        }
        PathSums x = Sums.of(CHECKS, "11 0");
        CHECKS.due("before reduce(), rule(0, 0)", x.rule(0, 0), PathSums.NONE);
    }

    private static void noSuchWhat() {
        CHECKS.sentence("Promise 6: NONE if there is no such what");
        PathSums x = Sums.of(CHECKS, "10 0", "10 0", "reduce");
        for (int what : new int[]{-1, -2, 3, 4, 32, LEAST, MOST}) {
            CHECKS.due("rule(0, " + what + ")", x.rule(0, what), PathSums.NONE);
            CHECKS.due("rule(1, " + what + ")", x.rule(1, what), PathSums.NONE);
        }
        CHECKS.due("rule(0, 2)", x.rule(0, 2), 1);
    }

    private static void sinceItWasBegun() {
        CHECKS.sentence("Promise 6: RULE i that was done since it was BEGUN");
        for (String begun : new String[]{"begin 1 0", "open 1"}) {
            PathSums x = Sums.of(CHECKS, "11 0", "11 0", "reduce", begun);
            CHECKS.due(begun + ", rule(0, 0)", x.rule(0, 0), PathSums.NONE);
            CHECKS.due(begun + ", rule(1, 1)", x.rule(1, 1), PathSums.NONE);
            CHECKS.due(begun + ", total(4)", x.total(4), 0);
            Sums.go(CHECKS, x, "begin 1 0", "10 0", "10 0", "reduce");
            CHECKS.due("the new first one", Checks.rules(x), "[3 0 1]");
            CHECKS.due("rule(1, 0)", x.rule(1, 0), PathSums.NONE);
        }
    }

    private static void ruleKeptByRefusedCalls() {
        CHECKS.sentence("Promise 6: since it was BEGUN: a begin and an open that are refused did not begin it");
        PathSums x = Sums.of(CHECKS, "10 0", "10 0", "reduce");
        CHECKS.due("begin(7, 0)", x.begin(7, 0), false);
        CHECKS.due("open(0)", x.open(0), false);
        CHECKS.due("RULES", Checks.rules(x), "[3 0 1]");
    }

    private static void rulesGoOn() {
        CHECKS.sentence("Promise 6: RULE i: those of a later reduce() come behind the earlier ones");
        PathSums x = Sums.of(CHECKS, "begin 2 2", "10 0", "10 0", "reduce", "12 1", "10 0", "4 0", "10 0", "reduce");
        CHECKS.due("RULES", Checks.rules(x), "[3 0 1][1 2 -1][4 3 -1]");
        Sums.go(CHECKS, x, "11 1", "reduce");
        CHECKS.due("RULES behind an EMPTY one", Checks.rules(x), "[3 0 1][1 2 -1][4 3 -1][2 5 -1]");
    }

    private static void mostRules() {
        CHECKS.sentence("Promise 6: the most RULES there can be: one for each of 24 BITS");
        PathSums x = new PathSums();
        Sums.times(CHECKS, x, 24, "11 0");
        CHECKS.due("reduce()", x.reduce(), 24);
        for (int i = 0; i < 24; i++) {
            CHECKS.due("rule(" + i + ", 0)", x.rule(i, 0), 1);
            CHECKS.due("rule(" + i + ", 1)", x.rule(i, 1), i);
            CHECKS.due("rule(" + i + ", 2)", x.rule(i, 2), PathSums.NONE);
        }
        CHECKS.due("rule(24, 0)", x.rule(24, 0), PathSums.NONE);
        CHECKS.due("total(4)", x.total(4), 24);
    }
}
