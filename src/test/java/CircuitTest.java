/** Promises 4, 5 and 9: AMPLITUDES are those of the circuit, gate by gate, before and behind reduce. */
public final class CircuitTest {
    private final Checks checks = new Checks();
    private final int wires;
    private final int input;
    /** Of each output a, b, c and d; all of them over r^below. */
    private long[][] amplitudes;
    private int below = 0;

    private CircuitTest(int wires, int input) {
        this.wires = wires;
        this.input = input;
        amplitudes = new long[1 << wires][4];
        amplitudes[input][0] = 1;
    }

    private void apply(int kind, int a, int b, int c) {
        long[][] next = new long[1 << wires][4];
        for (int from = 0; from < 1 << wires; from++) {
            int ofA = from >> a & 1;
            int ofB = from >> b & 1;
            int ofC = from >> c & 1;
            switch (kind) {
                case 0 -> turned(next[from ^ 1 << a], amplitudes[from], 0);
                case 1 -> turned(next[from ^ ofB << a], amplitudes[from], 0);
                case 2 -> turned(next[from & ~(1 << a | 1 << b) | ofA << b | ofB << a], amplitudes[from], 0);
                case 3 -> turned(next[from], amplitudes[from], 4 * ofA);
                case 4 -> turned(next[from], amplitudes[from], 2 * ofA);
                case 5 -> turned(next[from], amplitudes[from], ofA);
                case 6 -> turned(next[from], amplitudes[from], 6 * ofA);
                case 7 -> turned(next[from], amplitudes[from], 7 * ofA);
                case 8 -> turned(next[from], amplitudes[from], 4 * ofA * ofB);
                case 9 -> turned(next[from], amplitudes[from], 4 * ofA * ofB * ofC);
                case 10 -> {
                    turned(next[from & ~(1 << a)], amplitudes[from], 0);
                    turned(next[from | 1 << a], amplitudes[from], 4 * ofA);
                }
                default -> {
                    if (ofA == kind - 11) {
                        turned(next[from], amplitudes[from], 0);
                    }
                }
            }
        }
        below += kind == 10 ? 1 : 0;
        amplitudes = next;
    }

    private static void turned(long[] to, long[] from, int eighths) {
        for (int i = 0; i < 4; i++) {
            int power = (i + eighths) % 8;
            to[power % 4] += power < 4 ? from[i] : -from[i];
        }
    }

    private void compare(String run, PathSums x) {
        for (int output = 0; output < 1 << wires; output++) {
            checks.due(run + ": from " + input + " to " + output, Checks.amplitude(x, input, output),
                    Model.root(amplitudes[output], below));
        }
    }

    private static void run(int seed, Checks all) {
        Numbers numbers = new Numbers(seed);
        int wires = 1 + numbers.below(4);
        int input = numbers.below(1 << wires);
        CircuitTest circuit = new CircuitTest(wires, input);
        PathSums x = new PathSums();
        all.due(seed + ": begun", numbers.oneIn(2) ? x.open(wires) : x.begin(wires, input), true);
        int measured = 0;
        for (int i = 0; i < 60 && x.total(2) < 24; i++) {
            int kind = numbers.below(11);
            if (measured < 2 && numbers.oneIn(12)) {
                kind = 11 + numbers.below(2);
                measured++;
            }
            int[] abc = {numbers.below(wires), numbers.below(wires), numbers.below(wires)};
            if (x.gate(kind, abc[0], abc[1], abc[2])) {
                circuit.apply(kind, abc[0], abc[1], abc[2]);
            }
            if (Integer.bitCount(x.total(1)) > 9) {
                x.reduce();
            }
            if (x.total(5) == 1 || Integer.bitCount(x.total(1)) > 12) {
                break;
            }
        }
        if (Integer.bitCount(x.total(1)) <= 12) {
            circuit.compare(seed + " as built", x);
            x.reduce();
            circuit.compare(seed + " reduced", x);
        }
        circuit.checks.addTo(all);
    }

    public static void main(String[] args) {
        Checks all = new Checks();
        for (int seed = 1; seed <= 2000; seed++) {
            run(seed, all);
        }
        all.end();
    }
}
