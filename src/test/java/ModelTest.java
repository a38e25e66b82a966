/** Promises 1 to 11: long mixed runs, each answer compared with the model's. */
public final class ModelTest {
    private static final int[][] LIKELY_KINDS = {
        {0, 1, 2, 3, 4, 5, 6, 7, 8, 9, 10, 11, 12},
        {1, 5, 7, 10, 10, 1},
        {1, 3, 8, 10, 10, 0, 4, 6},
        {1, 1, 4, 6, 8, 9, 10, 10, 11, 12, 0},
        {1, 1, 1, 5, 10, 11, 12, 2, 7},
    };

    private final Checks checks = new Checks();
    private final int[] rulesSeen = new int[5];
    private int emptySeen = 0;
    private int negativeSeen = 0;
    private int refusedSeen = 0;

    private void run(int seed) {
        Numbers numbers = new Numbers(seed);
        PathSums x = new PathSums();
        Model model = new Model();
        compare(seed, x, model, numbers);
        int[] kinds = LIKELY_KINDS[numbers.below(LIKELY_KINDS.length)];
        int reduceRate = 3 + numbers.below(30);
        begin(seed, x, model, numbers);
        for (int call = 0; call < 80; call++) {
            if (numbers.oneIn(60)) {
                begin(seed, x, model, numbers);
            } else if (numbers.oneIn(reduceRate)) {
                checks.due(seed + ": reduce()", x.reduce(), model.reduce());
            } else {
                gate(seed, x, model, kinds, numbers);
            }
            if (call % 4 == 0 || call == 79) {
                compare(seed, x, model, numbers);
            }
        }
        checks.due(seed + ": reduce()", x.reduce(), model.reduce());
        compare(seed, x, model, numbers);
        for (int[] rule : model.rules) {
            rulesSeen[rule[0]]++;
        }
        emptySeen += model.empty ? 1 : 0;
    }

    private void begin(int seed, PathSums x, Model model, Numbers numbers) {
        int wires = numbers.below(9) - 1;
        int start = numbers.below(70) - 3;
        if (numbers.oneIn(2)) {
            checks.due(seed + ": open(" + wires + ")", x.open(wires), model.open(wires));
        } else {
            checks.due(seed + ": begin(" + wires + ", " + start + ")", x.begin(wires, start), model.begin(wires, start));
        }
    }

    private void gate(int seed, PathSums x, Model model, int[] kinds, Numbers numbers) {
        int kind = numbers.oneIn(40) ? numbers.below(20) - 4 : kinds[numbers.below(kinds.length)];
        int n = model.wires;
        int a = wire(n, numbers);
        int b = wire(n, numbers);
        int c = wire(n, numbers);
        String call = seed + ": gate(" + kind + ", " + a + ", " + b + ", " + c + ")";
        boolean want = model.gate(kind, a, b, c);
        checks.due(call, x.gate(kind, a, b, c), want);
    }

    private static int wire(int n, Numbers numbers) {
        return numbers.oneIn(40) ? numbers.below(12) - 3 : numbers.below(n);
    }

    private void compare(int seed, PathSums x, Model model, Numbers numbers) {
        checks.due(seed + ": state", Checks.state(x), model.state());
        negativeSeen += model.h < 0 ? 1 : 0;
        for (int i = 0; i < 2; i++) {
            int input = numbers.below((1 << model.wires) + 1) - (numbers.oneIn(20) ? 1 : 0);
            int output = numbers.below((1 << model.wires) + (numbers.oneIn(10) ? 1 : 0)) - (numbers.oneIn(20) ? 1 : 0);
            String want = model.amplitude(input, output, numbers.oneIn(20) ? 12 : 6);
            if (want != null) {
                refusedSeen += want.contains("Arithmetic") ? 1 : 0;
                checks.due(seed + ": amplitude " + input + " to " + output, Checks.amplitude(x, input, output), want);
            }
        }
    }

    public static void main(String[] args) {
        ModelTest test = new ModelTest();
        int runs = args.length > 0 ? Integer.parseInt(args[0]) : 1500;
        for (int seed = 1; seed <= runs; seed++) {
            test.run(seed);
        }
        System.out.println("rules done: " + java.util.Arrays.toString(test.rulesSeen) + ", empty " + test.emptySeen
                + ", too many bits " + test.refusedSeen + ", h below 0 " + test.negativeSeen);
        for (int kind = 1; kind <= 4; kind++) {
            test.checks.due("rule " + kind + " was done in these runs", test.rulesSeen[kind] > 0, true);
        }
        test.checks.due("an AMPLITUDE was refused in these runs", test.refusedSeen > 0, true);
        test.checks.end();
    }
}
