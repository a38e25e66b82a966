/** Sums that are made by written calls: "begin 2 1", "open 3", "reduce", or a gate: "10 0", "1 0 1", "9 0 1 2". */
final class Sums {
    private Sums() {
    }

    static PathSums of(Checks checks, String... calls) {
        PathSums x = new PathSums();
        go(checks, x, calls);
        return x;
    }

    /** All of these calls are to be taken. */
    static void go(Checks checks, PathSums x, String... calls) {
        for (String call : calls) {
            checks.due(call, taken(x, call.split(" ")), true);
        }
    }

    private static boolean taken(PathSums x, String[] words) {
        switch (words[0]) {
            case "begin":
                return x.begin(number(words, 1), number(words, 2));
            case "open":
                return x.open(number(words, 1));
            case "reduce":
                return x.reduce() >= 0;
            default:
                return x.gate(number(words, 0), number(words, 1), number(words, 2), number(words, 3));
        }
    }

    private static int number(String[] words, int place) {
        return place < words.length ? Integer.parseInt(words[place]) : 0;
    }

    static void times(Checks checks, PathSums x, int count, String call) {
        for (int i = 0; i < count; i++) {
            go(checks, x, call);
        }
    }

    /** With BITS, MONOMIALS, HALVES, constants and RULES done. */
    static PathSums used(Checks checks) {
        PathSums x = of(checks, "open 3", "10 0", "10 0", "10 0", "5 1", "0 2", "9 0 1 2", "reduce");
        checks.due("a used one, total(4)", x.total(4), 1);
        return x;
    }

    static PathSums empty(Checks checks) {
        PathSums x = of(checks, "begin 3 7", "10 1", "5 1", "11 2", "reduce");
        checks.due("an EMPTY one, total(5)", x.total(5), 1);
        return x;
    }

    static PathSums emptyOpen(Checks checks) {
        PathSums x = of(checks, "open 2", "10 0", "11 0", "12 0", "reduce");
        checks.due("an EMPTY one, total(5)", x.total(5), 1);
        return x;
    }
}
