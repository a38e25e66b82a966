import java.math.BigInteger;
import java.util.ArrayList;
import java.util.List;
import java.util.Map;
import java.util.TreeMap;

/** The document's words, done slowly and in another way: the POLYNOMIAL is a map, multiplied out. */
final class Model {
    int wires;
    int came;
    int there;
    int inputs;
    int h;
    boolean open;
    boolean empty;
    int[] sets;
    int[] constants;
    Map<Integer, Integer> polynomial;
    List<int[]> rules;

    Model() {
        begin(1, 0);
    }

    private void clear(int n) {
        wires = n;
        came = 0;
        there = 0;
        inputs = 0;
        h = 0;
        open = false;
        empty = false;
        sets = new int[n];
        constants = new int[n];
        polynomial = new TreeMap<>();
        rules = new ArrayList<>();
    }

    boolean begin(int n, int start) {
        if (n < 1 || n > 6 || start < 0 || start > (1 << n) - 1) {
            return false;
        }
        clear(n);
        for (int i = 0; i < n; i++) {
            constants[i] = start >> i & 1;
        }
        return true;
    }

    boolean open(int n) {
        if (n < 1 || n > 6) {
            return false;
        }
        clear(n);
        open = true;
        for (int i = 0; i < n; i++) {
            sets[i] = 1 << i;
        }
        inputs = (1 << n) - 1;
        there = inputs;
        came = n;
        return true;
    }

    private static final List<int[]> WIRES_OF_KIND = List.of(
            new int[]{0}, new int[]{0, 1}, new int[]{0, 1}, new int[]{0}, new int[]{0}, new int[]{0}, new int[]{0},
            new int[]{0}, new int[]{0, 1}, new int[]{0, 1, 2}, new int[]{0}, new int[]{0}, new int[]{0});

    boolean gate(int kind, int... abc) {
        if (empty || kind < 0 || kind > 12 || kind >= 10 && came >= 24) {
            return false;
        }
        java.util.Set<Integer> used = new java.util.HashSet<>();
        for (int place : WIRES_OF_KIND.get(kind)) {
            if (abc[place] < 0 || abc[place] >= wires || !used.add(abc[place])) {
                return false;
            }
        }
        int a = abc[0];
        switch (kind) {
            case 0 -> constants[a] = 1 - constants[a];
            case 1 -> {
                sets[a] ^= sets[abc[1]];
                constants[a] ^= constants[abc[1]];
            }
            case 2 -> {
                int set = sets[a];
                int constant = constants[a];
                sets[a] = sets[abc[1]];
                constants[a] = constants[abc[1]];
                sets[abc[1]] = set;
                constants[abc[1]] = constant;
            }
            case 3 -> add(scaled(4, number(a)));
            case 4 -> add(scaled(2, number(a)));
            case 5 -> add(number(a));
            case 6 -> add(scaled(6, number(a)));
            case 7 -> add(scaled(7, number(a)));
            case 8 -> add(scaled(4, times(number(a), number(abc[1]))));
            case 9 -> add(scaled(4, times(times(number(a), number(abc[1])), number(abc[2]))));
            default -> {
                int y = 1 << came;
                came++;
                there |= y;
                add(times(Map.of(y, 4), number(a)));
                if (kind == 12) {
                    add(Map.of(y, 4));
                }
                if (kind == 10) {
                    sets[a] = y;
                    constants[a] = 0;
                }
                h += kind == 10 ? 1 : 2;
            }
        }
        return true;
    }

    private Map<Integer, Integer> number(int wire) {
        return xor(sets[wire], constants[wire]);
    }

    /** x + y - 2 * x * y, and so on. */
    private static Map<Integer, Integer> xor(int set, int constant) {
        Map<Integer, Integer> sum = new TreeMap<>();
        plus(sum, 0, constant);
        for (int i = 0; i < 24; i++) {
            if ((set >> i & 1) == 1) {
                Map<Integer, Integer> bit = Map.of(1 << i, 1);
                Map<Integer, Integer> both = times(sum, bit);
                plus(sum, 1 << i, 1);
                both.forEach((s, n) -> plus(sum, s, -2 * n));
            }
        }
        return sum;
    }

    private static void plus(Map<Integer, Integer> sum, int set, int number) {
        int after = Math.floorMod(sum.getOrDefault(set, 0) + number, 8);
        if (after == 0) {
            sum.remove(set);
        } else {
            sum.put(set, after);
        }
    }

    private static Map<Integer, Integer> times(Map<Integer, Integer> p, Map<Integer, Integer> q) {
        Map<Integer, Integer> product = new TreeMap<>();
        p.forEach((s, n) -> q.forEach((t, m) -> plus(product, s | t, n * m)));
        return product;
    }

    private static Map<Integer, Integer> scaled(int by, Map<Integer, Integer> p) {
        return times(Map.of(0, by), p);
    }

    private void add(Map<Integer, Integer> p) {
        p.forEach((s, n) -> plus(polynomial, s, n));
    }

    int reduce() {
        int done = 0;
        while (oneRule()) {
            done++;
        }
        return done;
    }

    private boolean oneRule() {
        for (int y = 0; y < came; y++) {
            boolean inValue = false;
            for (int set : sets) {
                inValue |= (set >> y & 1) == 1;
            }
            if (!inValue && (there >> y & 1) == 1 && (inputs >> y & 1) == 0 && tryRules(y)) {
                return true;
            }
        }
        return false;
    }

    private boolean tryRules(int y) {
        Map<Integer, Integer> q = new TreeMap<>();
        Map<Integer, Integer> rest = new TreeMap<>();
        polynomial.forEach((s, n) -> {
            if ((s >> y & 1) == 1) {
                q.put(s & ~(1 << y), n);
            } else {
                rest.put(s, n);
            }
        });
        int constant = q.getOrDefault(0, 0);
        int bits = 0;
        for (Map.Entry<Integer, Integer> e : q.entrySet()) {
            if (e.getKey() != 0) {
                if (e.getValue() != 4 || Integer.bitCount(e.getKey()) != 1) {
                    return false;
                }
                bits |= e.getKey();
            }
        }
        if (q.isEmpty()) {
            go(1, y, -1);
            h -= 2;
            return true;
        }
        if (constant == 4 && bits == 0) {
            go(2, y, -1);
            there = inputs;
            for (int i = 0; i < wires; i++) {
                sets[i] &= inputs;
            }
            polynomial.clear();
            h = 0;
            empty = true;
            return true;
        }
        if (constant % 4 == 0 && (bits & ~inputs) != 0) {
            int z = 31 - Integer.numberOfLeadingZeros(bits & ~inputs);
            go(3, y, z);
            there &= ~(1 << z);
            int others = bits & ~(1 << z);
            polynomial = new TreeMap<>();
            rest.forEach((s, n) -> {
                Map<Integer, Integer> one = Map.of(s & ~(1 << z), n);
                add((s >> z & 1) == 1 ? times(one, xor(others, constant / 4)) : one);
            });
            for (int i = 0; i < wires; i++) {
                if ((sets[i] >> z & 1) == 1) {
                    sets[i] = sets[i] & ~(1 << z) ^ others;
                    constants[i] ^= constant / 4;
                }
            }
            h -= 2;
            return true;
        }
        if (constant == 2 || constant == 6) {
            go(4, y, -1);
            polynomial = rest;
            add(Map.of(0, constant == 2 ? 1 : 7));
            add(scaled(constant == 2 ? 6 : 2, xor(bits, 0)));
            h -= 1;
            return true;
        }
        return false;
    }

    private void go(int kind, int y, int z) {
        rules.add(new int[]{kind, y, z});
        there &= ~(1 << y);
    }

    String amplitude(int input, int output, int most) {
        boolean inputThere = !open || input >= 0 && input < 1 << wires;
        if (!inputThere || output < 0 || output >= 1 << wires) {
            return five("throws.NoSuchElementException");
        }
        int counted = there & ~inputs;
        if (Integer.bitCount(counted) > 12) {
            return five("throws.ArithmeticException");
        }
        if (Integer.bitCount(counted) > most) {
            return null;
        }
        long[] phases = new long[8];
        int chosen = counted;
        boolean more = !empty;
        while (more) {
            int all = chosen | input & inputs;
            int reached = 0;
            for (int i = 0; i < wires; i++) {
                reached |= (Integer.bitCount(sets[i] & all) + constants[i] & 1) << i;
            }
            if (reached == output) {
                int phase = 0;
                for (Map.Entry<Integer, Integer> e : polynomial.entrySet()) {
                    phase += (e.getKey() & all) == e.getKey() ? e.getValue() : 0;
                }
                phases[phase % 8]++;
            }
            more = chosen != 0;
            chosen = chosen - 1 & counted;
        }
        return root(new long[]{phases[0] - phases[4], phases[1] - phases[5], phases[2] - phases[6], phases[3] - phases[7]}, h);
    }

    private static String five(String text) {
        return text + (" " + text).repeat(4);
    }

    /** x / r^h as a ROOT: the least k by which x * r^k / r^h is whole. */
    static String root(long[] x, int h) {
        if (x[0] == 0 && x[1] == 0 && x[2] == 0 && x[3] == 0) {
            return "0 0 0 0 0";
        }
        BigInteger[] y = new BigInteger[4];
        for (int i = 0; i < 4; i++) {
            y[i] = BigInteger.valueOf(x[i]);
        }
        // r^60 is 2^30: all is held over 2^30, h less than 60
        for (int i = 0; i < 60 - h; i++) {
            y = timesR(y);
        }
        BigInteger below = BigInteger.ONE.shiftLeft(30);
        for (int k = 0; k < 200; k++) {
            boolean whole = true;
            StringBuilder text = new StringBuilder();
            for (BigInteger part : y) {
                whole &= part.mod(below).signum() == 0;
                text.append(part.divide(below)).append(' ');
            }
            if (whole) {
                return text.append(k).toString();
            }
            y = timesR(y);
        }
        return "no root";
    }

    /** w - w^3, multiplied out term by term. */
    private static BigInteger[] timesR(BigInteger[] x) {
        BigInteger[] product = {BigInteger.ZERO, BigInteger.ZERO, BigInteger.ZERO, BigInteger.ZERO};
        for (int i = 0; i < 4; i++) {
            addAt(product, i + 1, x[i]);
            addAt(product, i + 3, x[i].negate());
        }
        return product;
    }

    private static void addAt(BigInteger[] product, int power, BigInteger number) {
        product[power % 4] = product[power % 4].add(power / 4 % 2 == 0 ? number : number.negate());
    }

    String state() {
        StringBuilder text = new StringBuilder();
        int[] totals = {wires, there, came, polynomial.size(), rules.size(), empty ? 1 : 0, open ? 1 : 0};
        for (int total : totals) {
            text.append(total).append(' ');
        }
        text.append("h ").append(h);
        for (int i = 0; i < 6; i++) {
            text.append(" wire ").append(i < wires ? sets[i] : -1).append('+').append(i < wires ? constants[i] : -1);
        }
        for (int[] rule : rules) {
            text.append(" rule ").append(rule[0]).append(' ').append(rule[1]).append(' ').append(rule[2]);
        }
        text.append(" terms");
        polynomial.forEach((set, number) -> text.append(' ').append(number).append('*').append(set));
        return text.toString();
    }
}
