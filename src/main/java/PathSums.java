import java.util.Arrays;
import java.util.NoSuchElementException;

/**
 * Circuits of quantum gates as sums over bits: each way through the circuit is a choice of bits,
 * its phase a polynomial of these in eighths of a turn. The words in capitals are the document's.
 */
public final class PathSums {
    public static final int NONE = -1;

    private static final int MOST_WIRES = 6;
    private static final int MOST_BITS = 24;
    private static final int MOST_COUNTED = 12;
    private static final int ALL_BITS = (1 << MOST_BITS) - 1;
    /** A VALUE's constant stands above its BITS, so that one exclusive or serves for both. */
    private static final int ONE = 1 << MOST_BITS;

    private static final int X = 0;
    private static final int CONTROLLED_X = 1;
    private static final int SWAP = 2;
    private static final int FIRST_TURN = 3;
    private static final int LAST_TURN = 7;
    private static final int CONTROLLED_Z = 8;
    private static final int TWICE_CONTROLLED_Z = 9;
    private static final int H = 10;
    private static final int MEASURED_1 = 12;
    /** What the kinds z, s, t and the inverses of s and t multiply the VALUE with. */
    private static final int[] TURNS = {4, 2, 1, 6, 7};

    private static final int FREE_BIT = 1;
    private static final int CANCELLED = 2;
    private static final int BOUND_BITS = 3;
    private static final int QUARTER_TURN = 4;

    private final int[] values = new int[MOST_WIRES];
    private final Polynomial polynomial = new Polynomial();
    private final DoneRules doneRules = new DoneRules();
    private final Ways ways = new Ways();
    private final Root root = new Root();
    private int wireCount;
    private int bitsCame;
    private int bitsThere;
    private int inputBits;
    private int rootsBelow;
    private boolean begunOpen;
    private boolean empty;

    public PathSums() {
        startAnew(1, false);
    }

    public boolean begin(int wires, int start) {
        if (!isWireCount(wires) || start < 0 || start >= 1 << wires) {
            return false;
        }
        startAnew(wires, false);
        for (int i = 0; i < wires; i++) {
            values[i] = has(start, i) ? ONE : 0;
        }
        return true;
    }

    public boolean open(int wires) {
        if (!isWireCount(wires)) {
            return false;
        }
        startAnew(wires, true);
        for (int i = 0; i < wires; i++) {
            values[i] = 1 << i;
        }
        bitsCame = wires;
        inputBits = (1 << wires) - 1;
        bitsThere = inputBits;
        return true;
    }

    public boolean gate(int kind, int a, int b, int c) {
        if (empty || !fits(kind, a, b, c)) {
            return false;
        }
        if (kind == X) {
            values[a] ^= ONE;
        } else if (kind == CONTROLLED_X) {
            values[a] ^= values[b];
        } else if (kind == SWAP) {
            int kept = values[a];
            values[a] = values[b];
            values[b] = kept;
        } else if (kind <= LAST_TURN) {
            polynomial.addXor(TURNS[kind - FIRST_TURN], values[a], 0);
        } else if (kind == CONTROLLED_Z) {
            polynomial.addFourTimes(values[a], values[b], ONE);
        } else if (kind == TWICE_CONTROLLED_Z) {
            polynomial.addFourTimes(values[a], values[b], values[c]);
        } else {
            bringBit(kind, a);
        }
        return true;
    }

    public int reduce() {
        int done = 0;
        int y = leastBitWithRule();
        while (y != NONE && done < MOST_BITS) {
            doRule(ruleFor(y), y);
            done++;
            y = leastBitWithRule();
        }
        return done;
    }

    public int rule(int i, int what) {
        return doneRules.look(i, what);
    }

    public int term(int set) {
        if (set >>> bitsCame != 0 || Integer.bitCount(set) > 3) {
            return NONE;
        }
        return polynomial.numberOf(set);
    }

    public int wire(int i, int what) {
        if (!isWire(i)) {
            return NONE;
        }
        switch (what) {
            case 0: return values[i] & ALL_BITS;
            case 1: return has(values[i], MOST_BITS) ? 1 : 0;
            default: return NONE;
        }
    }

    public long value(int input, int output, int part) throws NoSuchElementException, ArithmeticException {
        boolean noInput = begunOpen && !isChoice(input);
        if (noInput || !isChoice(output) || part < 0 || part > 4) {
            throw new NoSuchElementException("no such input, output or part");
        }
        int counted = bitsThere & ~inputBits;
        if (Integer.bitCount(counted) > MOST_COUNTED) {
            throw new ArithmeticException("too many bits to count out");
        }
        if (empty) {
            return 0;
        }
        findAmplitude(counted, inputBits & input, output);
        return root.look(part);
    }

    public int total(int what) {
        switch (what) {
            case 0: return wireCount;
            case 1: return bitsThere;
            case 2: return bitsCame;
            case 3: return polynomial.monomials;
            case 4: return doneRules.count;
            case 5: return empty ? 1 : 0;
            case 6: return begunOpen ? 1 : 0;
            default: return NONE;
        }
    }

    public int halves() {
        return rootsBelow;
    }

    private static boolean has(int set, int i) {
        return (set >>> i & 1) != 0;
    }

    private static boolean isWireCount(int wires) {
        return wires >= 1 && wires <= MOST_WIRES;
    }

    private boolean isWire(int i) {
        return i >= 0 && i < wireCount && i < MOST_WIRES;
    }

    private boolean isChoice(int bits) {
        return bits >= 0 && bits < 1 << wireCount;
    }

    private void startAnew(int wires, boolean asOpen) {
        Arrays.fill(values, 0);
        polynomial.clear();
        doneRules.count = 0;
        wireCount = wires;
        bitsCame = 0;
        bitsThere = 0;
        inputBits = 0;
        rootsBelow = 0;
        begunOpen = asOpen;
        empty = false;
    }

    private boolean fits(int kind, int a, int b, int c) {
        if (kind < X || kind > MEASURED_1 || !isWire(a)) {
            return false;
        }
        if (kind >= H) {
            return bitsCame < MOST_BITS;
        }
        if (kind == TWICE_CONTROLLED_Z && (!isWire(c) || c == a || c == b)) {
            return false;
        }
        boolean oneWire = kind == X || kind >= FIRST_TURN && kind <= LAST_TURN;
        return oneWire || isWire(b) && b != a;
    }

    private void bringBit(int kind, int a) {
        int y = 1 << bitsCame;
        bitsCame++;
        bitsThere |= y;
        polynomial.addFourTimes(y, values[a], ONE);
        if (kind == MEASURED_1) {
            polynomial.add(y, 4);
        }
        if (kind == H) {
            values[a] = y;
            rootsBelow += 1;
        } else {
            rootsBelow += 2;
        }
    }

    private int leastBitWithRule() {
        int candidates = bitsThere & ~inputBits;
        for (int i = 0; i < MOST_WIRES; i++) {
            candidates &= ~values[i];
        }
        for (int y = 0; y < MOST_BITS; y++) {
            if (has(candidates, y) && ruleFor(y) != NONE) {
                return y;
            }
        }
        return NONE;
    }

    /** The kind of RULE that what y is multiplied with allows, for a BIT y in no VALUE. */
    private int ruleFor(int y) {
        int alone = polynomial.numberOf(1 << y);
        if (has(alone, 0)) {
            return NONE;
        }
        int partners = polynomial.partnersOf(y);
        if (partners == NONE) {
            return NONE;
        }
        if (has(alone, 1)) {
            return QUARTER_TURN;
        }
        if (partners == 0) {
            return alone == 0 ? FREE_BIT : CANCELLED;
        }
        return (partners & ~inputBits) != 0 ? BOUND_BITS : NONE;
    }

    private void doRule(int kind, int y) {
        int alone = polynomial.numberOf(1 << y);
        int partners = polynomial.partnersOf(y);
        int z = kind == BOUND_BITS ? greatestOf(partners & ~inputBits) : NONE;
        doneRules.keep(kind, y, z);
        if (kind == CANCELLED) {
            becomeEmpty();
            return;
        }
        polynomial.replaceBit(y, 0);
        bitsThere &= ~(1 << y);
        rootsBelow -= kind == QUARTER_TURN ? 1 : 2;
        if (kind == BOUND_BITS) {
            int others = partners & ~(1 << z) | (alone == 4 ? ONE : 0);
            polynomial.replaceBit(z, others);
            replaceInValues(z, others);
            bitsThere &= ~(1 << z);
        } else if (kind == QUARTER_TURN) {
            polynomial.add(0, alone == 2 ? 1 : 7);
            polynomial.addXor(alone == 2 ? 6 : 2, partners, 0);
        }
    }

    private static int greatestOf(int set) {
        for (int i = MOST_BITS - 1; i >= 0; i--) {
            if (has(set, i)) {
                return i;
            }
        }
        return NONE;
    }

    private void becomeEmpty() {
        for (int i = 0; i < MOST_WIRES; i++) {
            values[i] &= inputBits | ONE;
        }
        polynomial.clear();
        bitsThere = inputBits;
        rootsBelow = 0;
        empty = true;
    }

    private void replaceInValues(int z, int others) {
        for (int i = 0; i < MOST_WIRES; i++) {
            if (has(values[i], z)) {
                values[i] ^= 1 << z ^ others;
            }
        }
    }

    private void findAmplitude(int counted, int on, int output) {
        int reached = 0;
        for (int i = 0; i < wireCount && i < MOST_WIRES; i++) {
            reached |= (Integer.bitCount(values[i] & (on | ONE)) & 1) << i;
        }
        ways.choose(counted, values);
        ways.findPhases(polynomial, counted | on);
        ways.tally(reached, output);
        root.take(ways.tallies, rootsBelow);
    }

    /** The numbers of all MONOMIALS in one row: that of no BIT, those of one, of two, of three. */
    private static final class Polynomial {
        private static final int PAIRS_FROM = 1 + MOST_BITS;
        private static final int TRIPLES_FROM = PAIRS_FROM + MOST_BITS * (MOST_BITS - 1) / 2;
        private static final int PLACES =
                TRIPLES_FROM + MOST_BITS * (MOST_BITS - 1) * (MOST_BITS - 2) / 6;

        private final int[] numbers = new int[PLACES];
        private int monomials;

        void clear() {
            Arrays.fill(numbers, 0);
            monomials = 0;
        }

        int numberOf(int set) {
            int place = placeOf(set);
            return place >= 0 && place < PLACES ? numbers[place] : 0;
        }

        void add(int set, int number) {
            int place = placeOf(set);
            if (place < 0 || place >= PLACES) {
                return;
            }
            int before = numbers[place];
            int after = before + number & 7;
            numbers[place] = after;
            monomials += (after == 0 ? 0 : 1) - (before == 0 ? 0 : 1);
        }

        /**
         * Adds number times a VALUE (its BITS' exclusive or as a number) times the factor's BITS.
         * An exclusive or's products of four and more BITS bear multiples of 8.
         */
        void addXor(int number, int xor, int factor) {
            int single = number;
            if (has(xor, MOST_BITS)) {
                add(factor, number);
                single = -number;
            }
            for (int i = 0; i < MOST_BITS; i++) {
                if (has(xor, i)) {
                    add(factor | 1 << i, single);
                    // A multiple of 4 is one of 8 as soon as it is doubled.
                    if ((single & 3) != 0) {
                        addProductsBelow(i, single, xor, factor | 1 << i);
                    }
                }
            }
        }

        private void addProductsBelow(int i, int single, int xor, int factor) {
            for (int j = 0; j < i; j++) {
                if (!has(xor, j)) {
                    continue;
                }
                add(factor | 1 << j, -2 * single);
                // 4 times an odd number is 4, times an even one none.
                for (int k = 0; k < j && has(single, 0); k++) {
                    if (has(xor, k)) {
                        add(factor | 1 << j | 1 << k, 4);
                    }
                }
            }
        }

        /** Adds 4 times the product of three VALUES: under the 4, an exclusive or is a sum. */
        void addFourTimes(int first, int second, int third) {
            for (int i = 0; i <= MOST_BITS; i++) {
                if (!has(first, i)) {
                    continue;
                }
                for (int j = 0; j <= MOST_BITS; j++) {
                    if (!has(second, j)) {
                        continue;
                    }
                    for (int k = 0; k <= MOST_BITS; k++) {
                        if (has(third, k)) {
                            add((1 << i | 1 << j | 1 << k) & ALL_BITS, 4);
                        }
                    }
                }
            }
        }

        /** Puts a VALUE without the BIT in the BIT's place; 0 takes its MONOMIALS away. */
        void replaceBit(int bit, int by) {
            for (int i = 0; i < MOST_BITS; i++) {
                for (int j = 0; j <= i; j++) {
                    int set = 1 << bit | 1 << i | 1 << j;
                    int number = numberOf(set);
                    if (number != 0) {
                        add(set, -number);
                        addXor(number, by, set & ~(1 << bit));
                    }
                }
            }
        }

        /** The BITS x with 4 * x * bit; NONE if the BIT is in other products, too. */
        int partnersOf(int bit) {
            int partners = 0;
            for (int i = 0; i < MOST_BITS; i++) {
                for (int j = 0; j <= i; j++) {
                    int set = 1 << bit | 1 << i | 1 << j;
                    int number = set == 1 << bit ? 0 : numberOf(set);
                    if (number != 0 && (number != 4 || Integer.bitCount(set) > 2)) {
                        return NONE;
                    }
                    partners |= number == 0 ? 0 : set & ~(1 << bit);
                }
            }
            return partners;
        }

        private static int placeOf(int set) {
            int low = set & -set;
            int middle = set & ~low & -(set & ~low);
            int high = set & ~low & ~middle;
            if (set < 0 || set > ALL_BITS || (high & high - 1) != 0) {
                return NONE;
            }
            if (set == 0) {
                return 0;
            }
            int i = Integer.bitCount(low - 1);
            if (middle == 0) {
                return 1 + i;
            }
            int j = Integer.bitCount(middle - 1);
            int pair = j * (j - 1) / 2 + i;
            if (high == 0) {
                return PAIRS_FROM + pair;
            }
            int k = Integer.bitCount(high - 1);
            return TRIPLES_FROM + k * (k - 1) * (k - 2) / 6 + pair;
        }
    }

    /** The RULES that were done; each takes a BIT away, so there are never more than BITS. */
    private static final class DoneRules {
        private final int[] kinds = new int[MOST_BITS];
        private final int[] ys = new int[MOST_BITS];
        private final int[] zs = new int[MOST_BITS];
        private int count;

        void keep(int kind, int y, int z) {
            if (count < 0 || count >= MOST_BITS) {
                return;
            }
            kinds[count] = kind;
            ys[count] = y;
            zs[count] = z;
            count++;
        }

        int look(int i, int what) {
            if (i < 0 || i >= count || i >= MOST_BITS) {
                return NONE;
            }
            switch (what) {
                case 0: return kinds[i];
                case 1: return ys[i];
                case 2: return zs[i];
                default: return NONE;
            }
        }
    }

    /** The ways to choose the BITS that are counted out; its rows are made once for all calls. */
    private static final class Ways {
        private static final int MOST_WAYS = 1 << MOST_COUNTED;

        private final int[] phases = new int[MOST_WAYS];
        /** Of each BIT the way that chooses it alone, 0 of one that is not counted out. */
        private final int[] wayOf = new int[MOST_BITS];
        /** The WIRES that change with a BIT that is counted out. */
        private final int[] wiresOf = new int[MOST_COUNTED];
        /** How many ways to the output have each of the eight phases. */
        private final int[] tallies = new int[8];
        private int chosen;

        void choose(int counted, int[] values) {
            chosen = 0;
            for (int bit = 0; bit < MOST_BITS; bit++) {
                wayOf[bit] = 0;
                if (has(counted, bit) && chosen < MOST_COUNTED) {
                    wayOf[bit] = 1 << chosen;
                    wiresOf[chosen] = wiresWith(bit, values);
                    chosen++;
                }
            }
        }

        private static int wiresWith(int bit, int[] values) {
            int wires = 0;
            for (int i = 0; i < values.length && i < MOST_WIRES; i++) {
                wires |= (values[i] >>> bit & 1) << i;
            }
            return wires;
        }

        /** The phase of every way; live are the BITS that are counted out and the INPUTS that are 1. */
        void findPhases(Polynomial polynomial, int live) {
            Arrays.fill(phases, 0);
            phases[0] = polynomial.numberOf(0);
            for (int i = 0; i < MOST_BITS; i++) {
                if (has(live, i)) {
                    addNumber(wayOf[i], polynomial.numberOf(1 << i));
                    layProductsBelow(i, polynomial, live);
                }
            }
            sumOverParts();
        }

        private void layProductsBelow(int i, Polynomial polynomial, int live) {
            for (int j = 0; j < i; j++) {
                if (has(live, j)) {
                    int pair = 1 << i | 1 << j;
                    int way = wayOf[i] | wayOf[j];
                    addNumber(way, polynomial.numberOf(pair));
                    for (int k = 0; k < j; k++) {
                        if (has(live, k)) {
                            addNumber(way | wayOf[k], polynomial.numberOf(pair | 1 << k));
                        }
                    }
                }
            }
        }

        private void addNumber(int way, int number) {
            if (way >= 0 && way < MOST_WAYS) {
                phases[way] += number;
            }
        }

        /** A way has the phases of all products whose BITS it chooses: summed up BIT by BIT. */
        private void sumOverParts() {
            for (int place = 0; place < chosen; place++) {
                int step = 1 << place;
                for (int way = 0; way < 1 << chosen && way < MOST_WAYS; way++) {
                    if ((way & step) != 0) {
                        phases[way] += phases[way ^ step];
                    }
                }
            }
        }

        /** Goes through the ways so that each differs from the one before in a single BIT. */
        void tally(int reachedFirst, int output) {
            Arrays.fill(tallies, 0);
            int way = 0;
            int reached = reachedFirst;
            for (int count = 1; count <= 1 << chosen; count++) {
                if (reached == output && way >= 0 && way < MOST_WAYS) {
                    tallies[phases[way] & 7]++;
                }
                int place = Integer.bitCount((count & -count) - 1);
                if (place < chosen && place < MOST_COUNTED) {
                    way ^= 1 << place;
                    reached ^= wiresOf[place];
                }
            }
        }
    }

    /** (a + b * w + c * w^2 + d * w^3) / r^k, with the least k. */
    private static final class Root {
        private long a;
        private long b;
        private long c;
        private long d;
        private int k;

        /** Takes the sum of the eight phases, each as often as its tally says, over r^h. */
        void take(int[] tallies, int h) {
            if (tallies.length < 8) {
                return;
            }
            a = tallies[0] - tallies[4];
            b = tallies[1] - tallies[5];
            c = tallies[2] - tallies[6];
            d = tallies[3] - tallies[7];
            // The RULES never bring h below 0, but the document's h is any whole number.
            for (int i = h; i < 0; i++) {
                multiplyByR();
            }
            for (k = Math.max(h, 0); k > 0 && isMultipleOfR(); k--) {
                multiplyByR();
                halve();
            }
        }

        private void multiplyByR() {
            long newA = b - d;
            long newB = a + c;
            long newC = b + d;
            long newD = c - a;
            a = newA;
            b = newB;
            c = newC;
            d = newD;
        }

        private boolean isMultipleOfR() {
            return (a - c) % 2 == 0 && (b - d) % 2 == 0;
        }

        private void halve() {
            a /= 2;
            b /= 2;
            c /= 2;
            d /= 2;
        }

        long look(int part) {
            switch (part) {
                case 0: return a;
                case 1: return b;
                case 2: return c;
                case 3: return d;
                default: return k;
            }
        }
    }
}
