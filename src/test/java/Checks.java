import java.util.NoSuchElementException;

/** Counts the answers of one test that are not as due, and ends the test by them. */
final class Checks {
    private int asked = 0;
    private int wrong = 0;
    private String sentence = "";
    private int askedBefore = 0;

    /** What is asked from here on tests this sentence of the document: "Promise n: its words". */
    void sentence(String words) {
        endSentence();
        sentence = words;
        askedBefore = asked;
    }

    private void endSentence() {
        if (!sentence.isEmpty() && asked == askedBefore) {
            wrong++;
            System.out.println(sentence + " - nothing was asked");
        }
    }

    void due(String call, long got, long want) {
        due(call, Long.toString(got), Long.toString(want));
    }

    void due(String call, boolean got, boolean want) {
        due(call, Boolean.toString(got), Boolean.toString(want));
    }

    void due(String call, String got, String want) {
        asked++;
        if (!got.equals(want)) {
            wrong++;
            if (wrong <= 50) {
                String where = sentence.isEmpty() ? "" : sentence + " - ";
                System.out.println(where + call + " answered " + got + ", due is " + want);
            }
        }
    }

    /** Gates (kind, a, b, c) that are all to be taken. */
    void gates(PathSums x, int[]... gates) {
        for (int[] g : gates) {
            due("gate " + java.util.Arrays.toString(g), x.gate(g[0], g[1], g[2], g[3]), true);
        }
    }

    /** The five parts of an AMPLITUDE, or what asking for it throws. */
    static String amplitude(PathSums x, int input, int output) {
        StringBuilder parts = new StringBuilder();
        for (int part = 0; part < 5; part++) {
            parts.append(part == 0 ? "" : " ").append(part(x, input, output, part));
        }
        return parts.toString();
    }

    static String part(PathSums x, int input, int output, int part) {
        try {
            return Long.toString(x.value(input, output, part));
        } catch (NoSuchElementException e) {
            return "throws.NoSuchElementException";
        } catch (ArithmeticException e) {
            return "throws.ArithmeticException";
        }
    }

    /** A call that is refused: it answers false, and all that the object shows is as before. */
    void refused(String call, PathSums x, java.util.function.Predicate<PathSums> made) {
        String before = shown(x);
        due(call, made.test(x), false);
        due("what is shown behind " + call, shown(x), before);
    }

    void refusedGate(PathSums x, int kind, int a, int b, int c) {
        refused("gate(" + kind + ", " + a + ", " + b + ", " + c + ")", x, y -> y.gate(kind, a, b, c));
    }

    /** All that the object shows, with two of its AMPLITUDES. */
    static String shown(PathSums x) {
        int last = (1 << x.total(0)) - 1;
        return state(x) + " from 0 to 0 " + amplitude(x, 0, 0) + " from all to all " + amplitude(x, last, last);
    }

    /** Of each WIRE its VALUE, as set+constant. */
    static String wires(PathSums x) {
        StringBuilder text = new StringBuilder();
        for (int i = 0; i < x.total(0); i++) {
            text.append(i == 0 ? "" : " ").append(x.wire(i, 0)).append('+').append(x.wire(i, 1));
        }
        return text.toString();
    }

    /** Of each RULE that was done [kind y z]. */
    static String rules(PathSums x) {
        StringBuilder text = new StringBuilder();
        for (int i = 0; i < x.total(4); i++) {
            text.append('[').append(x.rule(i, 0)).append(' ').append(x.rule(i, 1)).append(' ').append(x.rule(i, 2)).append(']');
        }
        return text.toString();
    }

    /** All that the object shows but its AMPLITUDES. */
    static String state(PathSums x) {
        StringBuilder text = new StringBuilder();
        for (int what = 0; what <= 6; what++) {
            text.append(x.total(what)).append(' ');
        }
        text.append("h ").append(x.halves());
        for (int i = 0; i < 6; i++) {
            text.append(" wire ").append(x.wire(i, 0)).append('+').append(x.wire(i, 1));
        }
        for (int i = 0; i < x.total(4); i++) {
            text.append(" rule ").append(x.rule(i, 0)).append(' ').append(x.rule(i, 1)).append(' ').append(x.rule(i, 2));
        }
        text.append(" terms").append(terms(x));
        return text.toString();
    }

    /** The MONOMIALS that are there, in the order of their sets. */
    static String terms(PathSums x) {
        java.util.TreeMap<Integer, Integer> found = new java.util.TreeMap<>();
        int came = x.total(2);
        for (int i = 0; i <= came; i++) {
            for (int j = 0; j <= i; j++) {
                for (int k = 0; k <= j; k++) {
                    int set = (1 << i | 1 << j | 1 << k) & (1 << came) - 1;
                    if (x.term(set) != 0) {
                        found.put(set, x.term(set));
                    }
                }
            }
        }
        StringBuilder text = new StringBuilder();
        found.forEach((set, number) -> text.append(' ').append(number).append('*').append(set));
        return text.toString();
    }

    void addTo(Checks all) {
        all.asked += asked;
        all.wrong += wrong;
    }

    void end() {
        endSentence();
        System.out.println(asked + " answers, " + wrong + " not as due");
        if (wrong != 0 || asked == 0) {
            System.exit(1);
        }
    }
}
