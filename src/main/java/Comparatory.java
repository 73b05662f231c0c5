/**
 * A sorting house of wires: networks of comparators on 2 to 6 wires, what they do, what they do as
 * switches and as balancers, their faults, rows put in order by steps, and an adversary's answers.
 */
public final class Comparatory {
    public static final int NONE = -1;
    public static final int BUBBLE = 0, BRICK = 1, MERGE = 2;
    public static final int PASS = 0, CROSS = 1, TURN = 2;
    public static final int SWAPS = 0, CHANGES = 1, FLIPS = 2, BLOCKS = 3;

    private static final int LEAST_WIRES = 2;
    private static final int MOST_WIRES = 6;
    private static final int MOST_COMPARATORS = 24;
    private static final int MOST_SIGNS = 40;
    private static final int MOST_TYPED = 8;
    private static final int MOST_TO_FINISH = 3;
    private static final int MOST_TESTS = 4;
    private static final int MOST_TOKENS = 1000;
    private static final int MOST_WIRES_TO_PLAN_QUESTIONS = 4;
    private static final int FAULTS_OF_ONE = 3;
    private static final int KINDS_OF_STEPS = 4;
    private static final int ALL_ROWS = 720;

    private final Wiring wiring = new Wiring();
    private final Wiring plan = new Wiring();
    private final Tape tape = new Tape();
    private final Proof proof = new Proof();
    private final Faults faults = new Faults();
    private final Switches switches = new Switches();
    private final Balancers balancers = new Balancers();
    private final Steps orders = new Steps();
    private final Adversary adversary = new Adversary();

    public Comparatory() {
    }

    // ---- networks

    public int network(int wires) throws IllegalArgumentException {
        if (wires < LEAST_WIRES || wires > MOST_WIRES) {
            throw new IllegalArgumentException("a network has 2 to 6 wires");
        }
        int before = wiring.count;
        wiring.begin(wires);
        adversary.forget();
        forgetWhatDependsOnComparators();
        return before;
    }

    public int add(int first, int other)
            throws IndexOutOfBoundsException, IllegalArgumentException, IllegalStateException {
        checkTwoWires(first, other);
        checkRoomFor(1);
        wiring.append(first, other);
        forgetWhatDependsOnComparators();
        return wiring.count - 1;
    }

    public int take() throws IllegalStateException {
        if (wiring.count == 0) {
            throw new IllegalStateException("there is no comparator");
        }
        wiring.dropLast();
        forgetWhatDependsOnComparators();
        return wiring.count;
    }

    public int make(int what) throws IllegalArgumentException, IllegalStateException {
        if (what < BUBBLE || what > MERGE) {
            throw new IllegalArgumentException("what is BUBBLE to MERGE");
        }
        plan.begin(wiring.wires);
        switch (what) {
            case BUBBLE:
                plan.layBubble();
                break;
            case BRICK:
                plan.layBrick();
                break;
            default:
                plan.layMerge();
                break;
        }
        return appendPlan();
    }

    public void mirror() {
        wiring.turnUpsideDown();
        forgetWhatDependsOnComparators();
    }

    public int untangle() {
        int renamed = wiring.straighten();
        forgetWhatDependsOnComparators();
        return renamed;
    }

    public int prune() {
        int taken = proof.dropDead(wiring);
        forgetWhatDependsOnComparators();
        return taken;
    }

    public int told(int what) throws IllegalArgumentException {
        switch (what) {
            case 0:
                return wiring.wires;
            case 1:
                return wiring.count;
            case 2:
                return wiring.layerCount();
            case 3:
                return proof.deadCount(wiring);
            case 4:
                return wiring.crookedCount();
            case 5:
                return wiring.textLength();
            default:
                throw new IllegalArgumentException("what is 0 to 5");
        }
    }

    public int comparator(int comparator, int what)
            throws IndexOutOfBoundsException, IllegalArgumentException {
        checkComparator(comparator);
        switch (what) {
            case 0:
                return wiring.firsts[comparator];
            case 1:
                return wiring.others[comparator];
            case 2:
                return wiring.layerOf(comparator);
            case 3:
                return Long.bitCount(proof.exchanging(wiring, comparator));
            default:
                throw new IllegalArgumentException("what is 0 to 3");
        }
    }

    public char textAt(int place) throws IndexOutOfBoundsException {
        checkPlace(place);
        return wiring.signAt(place);
    }

    // ---- texts

    public int type(long characters, int n) throws IllegalArgumentException, IllegalStateException {
        if (n < 1 || n > MOST_TYPED) {
            throw new IllegalArgumentException("1 to 8 characters are typed");
        }
        for (int i = 0; i < n; i++) {
            if (!Tape.takes(Tape.signIn(characters, i))) {
                throw new IllegalArgumentException("a character cannot be on the tape");
            }
        }
        if (tape.length > MOST_SIGNS - n) {
            throw new IllegalStateException("the tape has at most 40 characters");
        }
        for (int i = 0; i < n; i++) {
            tape.put(Tape.signIn(characters, i));
        }
        return tape.length;
    }

    public int wipe() {
        int before = tape.length;
        tape.empty();
        return before;
    }

    public int fault() {
        return tape.faultFor(wiring.wires);
    }

    public int build() throws IllegalArgumentException, IllegalStateException {
        if (tape.faultFor(wiring.wires) != NONE) {
            throw new IllegalArgumentException("the tape is no text");
        }
        plan.begin(wiring.wires);
        tape.layOn(plan);
        int built = appendPlan();
        tape.empty();
        return built;
    }

    // ---- what networks do

    public int run(int code) throws IllegalArgumentException {
        int row = rowOf(code);
        return Rows.toCode(wiring.sent(row), wiring.wires);
    }

    public long outputs() {
        return proof.rowsOut(wiring);
    }

    public boolean sorts() {
        return proof.unsortedFrom(wiring) == 0;
    }

    public int sorted() {
        return proof.sortedCount(wiring);
    }

    public int wrong(int place) throws IndexOutOfBoundsException {
        checkPlace(place);
        return Proof.rowIn(proof.unsortedFrom(wiring), place);
    }

    public int finishes(int most) throws IllegalArgumentException {
        if (most < 0 || most > MOST_TO_FINISH) {
            throw new IllegalArgumentException("most is 0 to 3");
        }
        return proof.missing(wiring, most);
    }

    public boolean merges(int wire) throws IndexOutOfBoundsException {
        if (wire < 1 || wire >= wiring.wires) {
            throw new IndexOutOfBoundsException("a network merges at a wire other than 0");
        }
        return proof.mergesAt(wiring, wire);
    }

    public boolean chooses(int many) throws IllegalArgumentException {
        if (many < 1 || many >= wiring.wires) {
            throw new IllegalArgumentException("many is 1 to one less than there are wires");
        }
        return proof.choosesLowest(wiring, many);
    }

    public int off() {
        return proof.greatestDistance(wiring);
    }

    // ---- switches, balancers

    public int routes() {
        return switches.rowsOut(wiring);
    }

    public int setting(int code) throws IllegalArgumentException {
        int row = rowOf(code);
        return switches.lowestFor(wiring, row);
    }

    public int token(int wire) throws IndexOutOfBoundsException, IllegalStateException {
        checkWire(wire);
        if (balancers.total >= MOST_TOKENS) {
            throw new IllegalStateException("1000 tokens came");
        }
        return balancers.letIn(wiring, wire);
    }

    public int came(int wire) throws IndexOutOfBoundsException {
        checkWire(wire);
        return balancers.out[wire];
    }

    public int cameAnew(int wire) throws IndexOutOfBoundsException {
        checkWire(wire);
        return balancers.reckoned(wiring, wire);
    }

    public boolean isStep() {
        return balancers.outIsStep(wiring.wires);
    }

    // ---- faults

    public int bad(int comparator, int fault)
            throws IndexOutOfBoundsException, IllegalArgumentException {
        checkComparator(comparator);
        checkFault(fault);
        return Long.bitCount(proof.unsortedWith(wiring, comparator, fault));
    }

    public long tells(int comparator, int fault)
            throws IndexOutOfBoundsException, IllegalArgumentException {
        checkComparator(comparator);
        checkFault(fault);
        return proof.telling(wiring, comparator, fault);
    }

    public int hidden(long rows) {
        return faults.countHidden(proof, wiring, rows);
    }

    public int tests() {
        return faults.fewestRows(proof, wiring);
    }

    public boolean bears() {
        if (proof.unsortedFrom(wiring) != 0) {
            return false;
        }
        for (int i = 0; i < wiring.count; i++) {
            if (proof.unsortedWith(wiring, i, PASS) != 0) {
                return false;
            }
        }
        return true;
    }

    // ---- orders

    public int far(int steps, int code) throws IllegalArgumentException {
        checkSteps(steps);
        int row = rowOf(code);
        return orders.farOf(steps, row, wiring.wires);
    }

    public int step(int steps, int code) throws IllegalArgumentException {
        checkSteps(steps);
        int row = rowOf(code);
        return orders.codeNearer(steps, row, wiring.wires);
    }

    public int manyFar(int steps, int far) throws IllegalArgumentException {
        checkSteps(steps);
        if (far < 0) {
            throw new IllegalArgumentException("far is not below 0");
        }
        return orders.countFar(steps, far, wiring.wires);
    }

    // ---- questions

    public boolean ask(int first, int other)
            throws IndexOutOfBoundsException, IllegalArgumentException {
        checkTwoWires(first, other);
        return adversary.answer(first, other, wiring.wires);
    }

    public int left() {
        return adversary.rowsLeft(wiring.wires);
    }

    public int needed() {
        if (wiring.wires > MOST_WIRES_TO_PLAN_QUESTIONS) {
            return NONE;
        }
        return adversary.fewestQuestions(wiring.wires);
    }

    // ---- what the calls above share

    private void forgetWhatDependsOnComparators() {
        balancers.forget();
        switches.forget();
    }

    private int appendPlan() throws IllegalStateException {
        checkRoomFor(plan.count);
        for (int i = 0; i < plan.count; i++) {
            wiring.append(plan.firsts[i], plan.others[i]);
        }
        forgetWhatDependsOnComparators();
        return plan.count;
    }

    private void checkRoomFor(int more) throws IllegalStateException {
        if (wiring.count > MOST_COMPARATORS - more) {
            throw new IllegalStateException("a network has at most 24 comparators");
        }
    }

    private void checkWire(int wire) throws IndexOutOfBoundsException {
        if (wire < 0 || wire >= wiring.wires) {
            throw new IndexOutOfBoundsException("there is no such wire");
        }
    }

    private void checkTwoWires(int first, int other)
            throws IndexOutOfBoundsException, IllegalArgumentException {
        checkWire(first);
        checkWire(other);
        if (first == other) {
            throw new IllegalArgumentException("both wires are the same");
        }
    }

    private void checkComparator(int comparator) throws IndexOutOfBoundsException {
        if (comparator < 0 || comparator >= wiring.count) {
            throw new IndexOutOfBoundsException("there is no such comparator");
        }
    }

    private static void checkPlace(int place) throws IndexOutOfBoundsException {
        if (place < 0) {
            throw new IndexOutOfBoundsException("a place is not below 0");
        }
    }

    private static void checkFault(int fault) throws IllegalArgumentException {
        if (fault < PASS || fault > TURN) {
            throw new IllegalArgumentException("a fault is PASS to TURN");
        }
    }

    private static void checkSteps(int steps) throws IllegalArgumentException {
        if (steps < SWAPS || steps > BLOCKS) {
            throw new IllegalArgumentException("steps are SWAPS to BLOCKS");
        }
    }

    private int rowOf(int code) throws IllegalArgumentException {
        int row = Rows.ofCode(code, wiring.wires);
        if (row == NONE) {
            throw new IllegalArgumentException("that is no code of a row");
        }
        return row;
    }

    /**
     * Rows of all values, each packed into an int: four bits a wire, those of the wire 0 lowest.
     */
    private static final class Rows {
        private static final int[] FACTORIALS = {1, 1, 2, 6, 24, 120, 720};

        static int howMany(int wires) {
            return FACTORIALS[wires];
        }

        static int valueOn(int row, int wire) {
            return (row >> (4 * wire)) & 15;
        }

        static int inOrder(int wires) {
            int row = 0;
            for (int wire = 0; wire < wires; wire++) {
                row |= wire << (4 * wire);
            }
            return row;
        }

        static int exchanged(int row, int one, int two) {
            int unlike = valueOn(row, one) ^ valueOn(row, two);
            return row ^ (unlike << (4 * one)) ^ (unlike << (4 * two));
        }

        /** On each wire of the new row stands what stands on the wire that the sources tell. */
        static int rearranged(int row, int sources, int wires) {
            int moved = 0;
            for (int wire = 0; wire < wires; wire++) {
                moved |= valueOn(row, valueOn(sources, wire)) << (4 * wire);
            }
            return moved;
        }

        /** NONE, if the code is none of a row of all values. */
        static int ofCode(int code, int wires) {
            int rest = code;
            int seen = 0;
            int row = 0;
            for (int wire = 0; wire < wires; wire++) {
                int value = rest % 10;
                rest /= 10;
                if (value < 0 || value >= wires || ((seen >> value) & 1) != 0) {
                    return NONE;
                }
                seen |= 1 << value;
                row |= value << (4 * wire);
            }
            return rest == 0 ? row : NONE;
        }

        static int toCode(int row, int wires) {
            int code = 0;
            for (int wire = wires - 1; wire >= 0; wire--) {
                code = 10 * code + valueOn(row, wire);
            }
            return code;
        }

        /** How many rows have a lower code: so each row has a number of its own. */
        static int rank(int row, int wires) {
            int rank = 0;
            int seen = 0;
            for (int wire = 0; wire < wires; wire++) {
                int bit = 1 << valueOn(row, wire);
                rank += Integer.bitCount(seen & (bit - 1)) * FACTORIALS[wire];
                seen |= bit;
            }
            return rank;
        }
    }

    /** The wires and the comparators. */
    private static final class Wiring {
        private int wires = LEAST_WIRES;
        private int count = 0;
        private final int[] firsts = new int[MOST_COMPARATORS];
        private final int[] others = new int[MOST_COMPARATORS];
        private final int[] layers = new int[MOST_COMPARATORS];
        private final int[] freeFrom = new int[MOST_WIRES];

        void begin(int newWires) {
            wires = newWires;
            count = 0;
        }

        /** What comes when there is no room is left out: the face asks for room before. */
        void append(int first, int other) {
            if (count < MOST_COMPARATORS) {
                firsts[count] = first;
                others[count] = other;
                count++;
            }
        }

        void dropLast() {
            count--;
        }

        void layBubble() {
            for (int last = wires - 1; last >= 1; last--) {
                for (int i = 0; i < last; i++) {
                    append(i, i + 1);
                }
            }
        }

        void layBrick() {
            for (int time = 0; time < wires; time++) {
                for (int i = time % 2; i + 1 < wires; i += 2) {
                    append(i, i + 1);
                }
            }
        }

        void layMerge() {
            int half = 1;
            while (2 * half < wires) {
                half *= 2;
            }
            for (int p = half; p >= 1; p /= 2) {
                layAcross(p, 0, p);
                for (int q = half; q > p; q /= 2) {
                    layAcross(p, p, q - p);
                }
            }
        }

        private void layAcross(int bit, int wanted, int distance) {
            for (int i = 0; i + distance < wires; i++) {
                if ((i & bit) == wanted) {
                    append(i, i + distance);
                }
            }
        }

        void turnUpsideDown() {
            for (int i = 0; i < count; i++) {
                int first = firsts[i];
                firsts[i] = wires - 1 - others[i];
                others[i] = wires - 1 - first;
            }
        }

        /** Returns how many times wires changed their names. */
        int straighten() {
            int times = 0;
            for (int i = 0; i < count; i++) {
                if (isCrooked(i)) {
                    changeNames(firsts[i], others[i], i);
                    times++;
                }
            }
            return times;
        }

        private void changeNames(int one, int two, int from) {
            for (int i = from; i < count; i++) {
                firsts[i] = renamed(firsts[i], one, two);
                others[i] = renamed(others[i], one, two);
            }
        }

        private static int renamed(int wire, int one, int two) {
            if (wire == one) {
                return two;
            }
            return wire == two ? one : wire;
        }

        private boolean isCrooked(int i) {
            return firsts[i] > others[i];
        }

        int crookedCount() {
            int crooked = 0;
            for (int i = 0; i < count; i++) {
                if (isCrooked(i)) {
                    crooked++;
                }
            }
            return crooked;
        }

        int sent(int row) {
            int now = row;
            for (int i = 0; i < count; i++) {
                if (Rows.valueOn(now, firsts[i]) > Rows.valueOn(now, others[i])) {
                    now = Rows.exchanged(now, firsts[i], others[i]);
                }
            }
            return now;
        }

        /** Returns how many layers there are, and writes each comparator's into layers. */
        int layerCount() {
            int most = 0;
            for (int wire = 0; wire < wires; wire++) {
                freeFrom[wire] = 0;
            }
            for (int i = 0; i < count; i++) {
                int layer = Math.max(freeFrom[firsts[i]], freeFrom[others[i]]);
                layers[i] = layer;
                freeFrom[firsts[i]] = layer + 1;
                freeFrom[others[i]] = layer + 1;
                most = Math.max(most, layer + 1);
            }
            return most;
        }

        int layerOf(int i) {
            layerCount();
            return layers[i];
        }

        int textLength() {
            return count == 0 ? 0 : 4 * count - 1;
        }

        char signAt(int place) {
            if (place >= textLength()) {
                return ' ';
            }
            layerCount();
            int here = inTextAt(place / 4);
            switch (place % 4) {
                case 0:
                    return (char) ('0' + firsts[here]);
                case 1:
                    return ':';
                case 2:
                    return (char) ('0' + others[here]);
                default:
                    return layers[here] == layers[inTextAt(place / 4 + 1)] ? ' ' : '/';
            }
        }

        /** The comparator that has so many ahead of it in the text; the layers have to be known. */
        private int inTextAt(int ahead) {
            for (int i = 0; i < count; i++) {
                int before = 0;
                for (int j = 0; j < count; j++) {
                    if (placeKey(j) < placeKey(i)) {
                        before++;
                    }
                }
                if (before == ahead) {
                    return i;
                }
            }
            return 0;
        }

        private int placeKey(int i) {
            return MOST_WIRES * layers[i] + Math.min(firsts[i], others[i]);
        }
    }

    /** What has been typed. */
    private static final class Tape {
        private final char[] signs = new char[MOST_SIGNS];
        private int length = 0;

        static char signIn(long characters, int i) {
            return (char) ((characters >>> (8 * i)) & 255);
        }

        static boolean takes(char sign) {
            return sign >= '0' && sign <= '5' || sign == ':' || sign == '/' || sign == ' ';
        }

        /** What comes when there is no room is left out: the face asks for room before. */
        void put(char sign) {
            if (length < MOST_SIGNS) {
                signs[length] = sign;
                length++;
            }
        }

        void empty() {
            length = 0;
        }

        int faultFor(int wires) {
            int used = 0;
            for (int place = 0; place < length; place++) {
                char sign = signs[place];
                if (place % 4 == 1) {
                    if (sign != ':') {
                        return place;
                    }
                } else if (place % 4 == 3) {
                    if (sign != ' ' && sign != '/') {
                        return place;
                    }
                    used = sign == '/' ? 0 : used;
                } else {
                    int wire = sign - '0';
                    if (wire < 0 || wire >= wires || ((used >> wire) & 1) != 0) {
                        return place;
                    }
                    used |= 1 << wire;
                }
            }
            return length % 4 == 3 ? NONE : length;
        }

        /** Only for a tape that is a text. */
        void layOn(Wiring wiring) {
            for (int place = 0; place + 2 < length; place += 4) {
                wiring.append(signs[place] - '0', signs[place + 2] - '0');
            }
        }
    }

    /**
     * In how many orders all wires can be taken one by one, if each set of wires taken on the way
     * has to be an open one, and some wires have to be taken ahead of others.
     */
    private static final class Chains {
        private final int[] ways = new int[1 << MOST_WIRES];

        /**
         * open has a bit for each set of wires; in ahead, six bits a wire, those of the wire 0
         * lowest, tell the wires that have to be taken ahead of it.
         */
        int countOf(long open, long ahead, int wires) {
            int all = (1 << wires) - 1;
            ways[0] = 1;
            for (int set = 1; set <= all; set++) {
                ways[set] = ((open >>> set) & 1) == 0 ? 0 : waysTo(set, ahead, wires);
            }
            return ways[all];
        }

        private int waysTo(int set, long ahead, int wires) {
            int sum = 0;
            for (int wire = 0; wire < wires; wire++) {
                int before = set & ~(1 << wire);
                int needed = (int) (ahead >>> (MOST_WIRES * wire)) & 63;
                if (before != set && (needed & ~before) == 0) {
                    sum += ways[before];
                }
            }
            return sum;
        }
    }

    /**
     * What a network does to all rows of noughts and ones at once: a column has the value on one
     * wire of each row, that of the row 0 in the lowest bit. Since comparators do to a row of all
     * values what they do to each row of noughts and ones that tells which of its values are not
     * below some bound, this tells of rows of all values as well.
     */
    private static final class Proof {
        private static final long[] INPUTS = {
            0xAAAAAAAAAAAAAAAAL, 0xCCCCCCCCCCCCCCCCL, 0xF0F0F0F0F0F0F0F0L,
            0xFF00FF00FF00FF00L, 0xFFFF0000FFFF0000L, 0xFFFFFFFF00000000L
        };

        private final long[] columns = new long[MOST_WIRES];
        private final long[] sound = new long[MOST_WIRES];
        private final Chains chains = new Chains();

        private static long allRows(int wires) {
            return wires >= MOST_WIRES ? -1L : (1L << (1 << wires)) - 1;
        }

        private static void bringIn(long[] into, int wires) {
            for (int wire = 0; wire < wires; wire++) {
                into[wire] = INPUTS[wire] & allRows(wires);
            }
        }

        private static void compare(long[] in, int first, int other) {
            long one = in[first];
            long two = in[other];
            in[first] = one & two;
            in[other] = one | two;
        }

        private static void compareBadly(long[] in, int first, int other, int fault) {
            long one = in[first];
            long two = in[other];
            if (fault == CROSS) {
                in[first] = two;
                in[other] = one;
            } else if (fault == TURN) {
                in[first] = one | two;
                in[other] = one & two;
            }
        }

        private static void send(long[] in, Wiring wiring, int until) {
            bringIn(in, wiring.wires);
            for (int i = 0; i < until; i++) {
                compare(in, wiring.firsts[i], wiring.others[i]);
            }
        }

        private static void sendWith(long[] in, Wiring wiring, int bad, int fault) {
            send(in, wiring, bad);
            compareBadly(in, wiring.firsts[bad], wiring.others[bad], fault);
            for (int i = bad + 1; i < wiring.count; i++) {
                compare(in, wiring.firsts[i], wiring.others[i]);
            }
        }

        private static long unsortedIn(long[] in, int wires) {
            long unsorted = 0;
            for (int wire = 0; wire + 1 < wires; wire++) {
                unsorted |= in[wire] & ~in[wire + 1];
            }
            return unsorted;
        }

        /** NONE, if there are not so many rows in the set. */
        static int rowIn(long rows, int ahead) {
            int before = 0;
            for (int row = 0; row < 64; row++) {
                if (((rows >>> row) & 1) != 0) {
                    if (before == ahead) {
                        return row;
                    }
                    before++;
                }
            }
            return NONE;
        }

        long unsortedFrom(Wiring wiring) {
            send(columns, wiring, wiring.count);
            return unsortedIn(columns, wiring.wires);
        }

        long unsortedWith(Wiring wiring, int bad, int fault) {
            sendWith(columns, wiring, bad, fault);
            return unsortedIn(columns, wiring.wires);
        }

        long telling(Wiring wiring, int bad, int fault) {
            send(sound, wiring, wiring.count);
            sendWith(columns, wiring, bad, fault);
            long unlike = 0;
            for (int wire = 0; wire < wiring.wires; wire++) {
                unlike |= columns[wire] ^ sound[wire];
            }
            return unlike;
        }

        /** The rows that go into the network for which a comparator exchanges. */
        long exchanging(Wiring wiring, int i) {
            send(columns, wiring, i);
            return columns[wiring.firsts[i]] & ~columns[wiring.others[i]];
        }

        int deadCount(Wiring wiring) {
            int dead = 0;
            for (int i = 0; i < wiring.count; i++) {
                if (exchanging(wiring, i) == 0) {
                    dead++;
                }
            }
            return dead;
        }

        /**
         * Returns how many were dropped. A dead comparator does nothing, so whether the ones behind
         * it are dead can be asked of the comparators that were kept.
         */
        int dropDead(Wiring wiring) {
            int all = wiring.count;
            bringIn(columns, wiring.wires);
            wiring.count = 0;
            for (int i = 0; i < all; i++) {
                int first = wiring.firsts[i];
                int other = wiring.others[i];
                if ((columns[first] & ~columns[other]) != 0) {
                    compare(columns, first, other);
                    wiring.append(first, other);
                }
            }
            return all - wiring.count;
        }

        private int rowOutOf(int row, int wires) {
            int out = 0;
            for (int wire = 0; wire < wires; wire++) {
                out |= (int) ((columns[wire] >>> row) & 1) << wire;
            }
            return out;
        }

        long rowsOut(Wiring wiring) {
            send(columns, wiring, wiring.count);
            long out = 0;
            for (int row = 0; row < 1 << wiring.wires; row++) {
                out |= 1L << rowOutOf(row, wiring.wires);
            }
            return out;
        }

        /** A row comes out sorted, if the sets of wires of its 1, 2, 3 .. greatest values do. */
        int sortedCount(Wiring wiring) {
            return chains.countOf(~unsortedFrom(wiring), 0L, wiring.wires);
        }

        boolean mergesAt(Wiring wiring, int from) {
            bringIn(sound, wiring.wires);
            long unsortedAhead = unsortedIn(sound, from);
            long unsortedBehind = 0;
            for (int wire = from; wire + 1 < wiring.wires; wire++) {
                unsortedBehind |= sound[wire] & ~sound[wire + 1];
            }
            return (unsortedFrom(wiring) & ~unsortedAhead & ~unsortedBehind) == 0;
        }

        boolean choosesLowest(Wiring wiring, int many) {
            long unsorted = unsortedFrom(wiring);
            for (int row = 0; row < 1 << wiring.wires; row++) {
                boolean isWrong = ((unsorted >>> row) & 1) != 0;
                if (isWrong && wiring.wires - Integer.bitCount(row) == many) {
                    return false;
                }
            }
            return true;
        }

        int greatestDistance(Wiring wiring) {
            send(columns, wiring, wiring.count);
            int greatest = 0;
            for (int row = 0; row < 1 << wiring.wires; row++) {
                int out = rowOutOf(row, wiring.wires);
                greatest = Math.max(greatest, distanceIn(out, wiring.wires));
            }
            return greatest;
        }

        /** How far a one stands below the wires of the ones, or a nought above those of noughts. */
        private static int distanceIn(int row, int wires) {
            int noughts = wires - Integer.bitCount(row);
            int greatest = 0;
            for (int wire = 0; wire < wires; wire++) {
                boolean isOne = ((row >> wire) & 1) != 0;
                greatest = Math.max(greatest, isOne ? noughts - wire : wire - (noughts - 1));
            }
            return greatest;
        }

        /** How many straight comparators are missing to sort; NONE, if more than most are. */
        int missing(Wiring wiring, int most) {
            send(columns, wiring, wiring.count);
            for (int many = 0; many <= most; many++) {
                if (canFinish(columns, wiring.wires, many)) {
                    return many;
                }
            }
            return NONE;
        }

        /** The columns are the same behind it as ahead of it. */
        private static boolean canFinish(long[] in, int wires, int many) {
            if (unsortedIn(in, wires) == 0) {
                return true;
            }
            if (many <= 0) {
                return false;
            }
            boolean can = false;
            for (int first = 0; first < wires && !can; first++) {
                for (int other = first + 1; other < wires && !can; other++) {
                    long one = in[first];
                    long two = in[other];
                    if ((one & ~two) != 0) {
                        compare(in, first, other);
                        can = canFinish(in, wires, many - 1);
                        in[first] = one;
                        in[other] = two;
                    }
                }
            }
            return can;
        }
    }

    /** Which rows tell faults. */
    private static final class Faults {
        private final long[] sets = new long[FAULTS_OF_ONE * MOST_COMPARATORS];
        private int count = 0;

        int countHidden(Proof proof, Wiring wiring, long rows) {
            int many = 0;
            for (int i = 0; i < wiring.count; i++) {
                for (int fault = PASS; fault <= TURN; fault++) {
                    if ((proof.telling(wiring, i, fault) & rows) == 0) {
                        many++;
                    }
                }
            }
            return many;
        }

        int fewestRows(Proof proof, Wiring wiring) {
            count = 0;
            for (int i = 0; i < wiring.count; i++) {
                for (int fault = PASS; fault <= TURN; fault++) {
                    keep(proof.telling(wiring, i, fault));
                }
            }
            for (int many = 0; many <= MOST_TESTS; many++) {
                if (canTell(sets, count, 0L, 0L, many)) {
                    return many;
                }
            }
            return NONE;
        }

        /** A set that holds another one needs no row of its own: any row of that one will do. */
        private void keep(long set) {
            if (set == 0) {
                return;
            }
            int kept = 0;
            for (int i = 0; i < count; i++) {
                if ((sets[i] & ~set) == 0) {
                    return;
                }
            }
            for (int i = 0; i < count; i++) {
                if ((set & ~sets[i]) != 0) {
                    sets[kept] = sets[i];
                    kept++;
                }
            }
            if (kept < sets.length) {
                sets[kept] = set;
                count = kept + 1;
            }
        }

        /**
         * Whether so many rows more, none of them a barred one, hit all sets that the chosen ones
         * do not hit. The set with the fewest rows has to be hit by one of them; a row that was
         * tried in vain is barred from then on.
         */
        private static boolean canTell(long[] sets, int count, long chosen, long barred, int many) {
            long inAll = -1L;
            long smallest = 0;
            int size = 65;
            for (int i = 0; i < count; i++) {
                if ((sets[i] & chosen) == 0) {
                    long open = sets[i] & ~barred;
                    inAll &= open;
                    if (Long.bitCount(open) < size) {
                        size = Long.bitCount(open);
                        smallest = open;
                    }
                }
            }
            if (size == 65) {
                return true;
            }
            if (many <= 1) {
                return many == 1 && inAll != 0;
            }
            long tried = barred;
            for (int row = 0; row < 64; row++) {
                long bit = 1L << row;
                if ((smallest & bit) != 0) {
                    if (canTell(sets, count, chosen | bit, tried, many - 1)) {
                        return true;
                    }
                    tried |= bit;
                }
            }
            return false;
        }
    }

    /** Comparators as switches: which rows can come out, and by which settings. */
    private static final class Switches {
        private final int[] rows = new int[ALL_ROWS];
        /** By ranks: one more than the number of comparators it takes to bring a row out; 0: none. */
        private final byte[] since = new byte[ALL_ROWS];
        private int count = 0;

        void forget() {
            count = 0;
        }

        int rowsOut(Wiring wiring) {
            learn(wiring);
            return count;
        }

        int lowestFor(Wiring wiring, int row) {
            learn(wiring);
            int wires = wiring.wires;
            if (since[Rows.rank(row, wires)] == 0) {
                return NONE;
            }
            int setting = 0;
            int now = row;
            // The last comparator has the highest bit, so each one changes only if it has to.
            for (int i = wiring.count - 1; i >= 0; i--) {
                if (since[Rows.rank(now, wires)] > i + 1) {
                    setting |= 1 << i;
                    now = Rows.exchanged(now, wiring.firsts[i], wiring.others[i]);
                }
            }
            return setting;
        }

        private void learn(Wiring wiring) {
            if (count > 0) {
                return;
            }
            int wires = wiring.wires;
            for (int i = 0; i < ALL_ROWS; i++) {
                since[i] = 0;
            }
            reach(Rows.inOrder(wires), wires, 1);
            for (int i = 0; i < wiring.count && count < Rows.howMany(wires); i++) {
                int before = count;
                for (int j = 0; j < before; j++) {
                    int next = Rows.exchanged(rows[j], wiring.firsts[i], wiring.others[i]);
                    reach(next, wires, i + 2);
                }
            }
        }

        private void reach(int row, int wires, int when) {
            int rank = Rows.rank(row, wires);
            if (since[rank] == 0 && count < rows.length) {
                since[rank] = (byte) when;
                rows[count] = row;
                count++;
            }
        }
    }

    /** Comparators as balancers. */
    private static final class Balancers {
        private final int[] in = new int[MOST_WIRES];
        private final int[] out = new int[MOST_WIRES];
        private final int[] anew = new int[MOST_WIRES];
        private final boolean[] isOtherNext = new boolean[MOST_COMPARATORS];
        private int total = 0;

        void forget() {
            for (int wire = 0; wire < MOST_WIRES; wire++) {
                in[wire] = 0;
                out[wire] = 0;
            }
            for (int i = 0; i < MOST_COMPARATORS; i++) {
                isOtherNext[i] = false;
            }
            total = 0;
        }

        int letIn(Wiring wiring, int wire) {
            int now = wire;
            for (int i = 0; i < wiring.count; i++) {
                if (now == wiring.firsts[i] || now == wiring.others[i]) {
                    now = isOtherNext[i] ? wiring.others[i] : wiring.firsts[i];
                    isOtherNext[i] = !isOtherNext[i];
                }
            }
            in[wire]++;
            out[now]++;
            total++;
            return now;
        }

        int reckoned(Wiring wiring, int wire) {
            for (int i = 0; i < MOST_WIRES; i++) {
                anew[i] = in[i];
            }
            for (int i = 0; i < wiring.count; i++) {
                int both = anew[wiring.firsts[i]] + anew[wiring.others[i]];
                anew[wiring.firsts[i]] = (both + 1) / 2;
                anew[wiring.others[i]] = both / 2;
            }
            return anew[wire];
        }

        boolean outIsStep(int wires) {
            for (int wire = 0; wire + 1 < wires; wire++) {
                if (out[wire] < out[wire + 1]) {
                    return false;
                }
            }
            return out[0] - out[wires - 1] <= 1;
        }
    }

    /** How far rows are, found from the sorted row on: each kind of step can be taken back. */
    private static final class Steps {
        private static final int MOST_STEPS = 35;
        /** Where the rows of so many wires begin, those of fewer wires ahead of them. */
        private static final int[] BEGINNINGS = {0, 0, 0, 2, 8, 32, 152};
        private static final int ROWS_OF_ALL_WIRES = 872;

        /** One more than how far, by kinds of steps, wires and ranks; 0: not known. */
        private final byte[] known = new byte[KINDS_OF_STEPS * ROWS_OF_ALL_WIRES];
        private final int[] queue = new int[ALL_ROWS];
        /** Each step as a row of sources. */
        private final int[] list = new int[MOST_STEPS];
        private int count = 0;

        int farOf(int steps, int row, int wires) {
            learn(steps, wires);
            return known[placeOf(steps, row, wires)] - 1;
        }

        /** NONE, if the row is sorted. */
        int codeNearer(int steps, int row, int wires) {
            learn(steps, wires);
            listSteps(steps, wires);
            int far = known[placeOf(steps, row, wires)];
            int lowest = NONE;
            for (int i = 0; i < count; i++) {
                int next = Rows.rearranged(row, list[i], wires);
                int code = Rows.toCode(next, wires);
                boolean isNearer = known[placeOf(steps, next, wires)] < far;
                if (isNearer && (lowest == NONE || code < lowest)) {
                    lowest = code;
                }
            }
            return lowest;
        }

        int countFar(int steps, int far, int wires) {
            learn(steps, wires);
            int first = steps * ROWS_OF_ALL_WIRES + BEGINNINGS[wires];
            int many = 0;
            for (int i = 0; i < Rows.howMany(wires); i++) {
                if (known[first + i] - 1 == far) {
                    many++;
                }
            }
            return many;
        }

        private static int placeOf(int steps, int row, int wires) {
            return steps * ROWS_OF_ALL_WIRES + BEGINNINGS[wires] + Rows.rank(row, wires);
        }

        private void learn(int steps, int wires) {
            int sorted = Rows.inOrder(wires);
            if (known[placeOf(steps, sorted, wires)] != 0) {
                return;
            }
            listSteps(steps, wires);
            known[placeOf(steps, sorted, wires)] = 1;
            queue[0] = sorted;
            int found = 1;
            for (int at = 0; at < found && found < Rows.howMany(wires); at++) {
                int far = known[placeOf(steps, queue[at], wires)];
                for (int i = 0; i < count; i++) {
                    int next = Rows.rearranged(queue[at], list[i], wires);
                    int place = placeOf(steps, next, wires);
                    if (known[place] == 0 && found < queue.length) {
                        known[place] = (byte) (far + 1);
                        queue[found] = next;
                        found++;
                    }
                }
            }
        }

        private void listSteps(int steps, int wires) {
            count = 0;
            switch (steps) {
                case SWAPS:
                    listChanges(1, wires);
                    break;
                case CHANGES:
                    listChanges(wires - 1, wires);
                    break;
                case FLIPS:
                    listFlips(wires);
                    break;
                default:
                    listBlocks(wires);
                    break;
            }
        }

        private void append(int sources) {
            if (count < MOST_STEPS) {
                list[count] = sources;
                count++;
            }
        }

        private void listChanges(int widest, int wires) {
            int sorted = Rows.inOrder(wires);
            for (int one = 0; one < wires; one++) {
                for (int two = one + 1; two < wires && two - one <= widest; two++) {
                    append(Rows.exchanged(sorted, one, two));
                }
            }
        }

        private void listFlips(int wires) {
            for (int length = 2; length <= wires; length++) {
                int sources = 0;
                for (int wire = 0; wire < wires; wire++) {
                    int source = wire < length ? length - 1 - wire : wire;
                    sources |= source << (4 * wire);
                }
                append(sources);
            }
        }

        private void listBlocks(int wires) {
            for (int from = 0; from < wires; from++) {
                for (int middle = from + 1; middle < wires; middle++) {
                    for (int to = middle + 1; to <= wires; to++) {
                        append(blocksChanged(from, middle, to, wires));
                    }
                }
            }
        }

        /** The wires from one place up to the middle change with those from there up to another. */
        private static int blocksChanged(int from, int middle, int to, int wires) {
            int sources = 0;
            for (int wire = 0; wire < wires; wire++) {
                int source = wire;
                if (wire >= from && wire < to) {
                    source = wire + middle - from;
                    source = source < to ? source : source - (to - from);
                }
                sources |= source << (4 * wire);
            }
            return sources;
        }
    }

    /** Answers questions, and keeps as many rows as it can. */
    private static final class Adversary {
        /** Six bits a wire, those of the wire 0 lowest: the wires told to have lesser values. */
        private long lesser = 0;
        private final Chains chains = new Chains();

        void forget() {
            lesser = 0;
        }

        boolean answer(int first, int other, int wires) {
            long byFirst = lesser | isLesser(first, other);
            long byOther = lesser | isLesser(other, first);
            int leftByFirst = countOf(chains, byFirst, wires);
            int leftByOther = countOf(chains, byOther, wires);
            boolean isFirst = leftByFirst == leftByOther ? first < other : leftByFirst > leftByOther;
            lesser = isFirst ? byFirst : byOther;
            return isFirst;
        }

        int rowsLeft(int wires) {
            return countOf(chains, lesser, wires);
        }

        /** NONE, if more are needed than pairs of wires: that cannot be. */
        int fewestQuestions(int wires) {
            int now = rowsLeft(wires);
            for (int many = 0; many <= wires * (wires - 1) / 2; many++) {
                if (canSettle(chains, lesser, now, wires, many)) {
                    return many;
                }
            }
            return NONE;
        }

        private static long isLesser(int low, int high) {
            return 1L << (MOST_WIRES * high + low);
        }

        /** The values are laid on the wires from the least one on: the lesser ones come ahead. */
        private static int countOf(Chains chains, long lesser, int wires) {
            return chains.countOf(-1L, lesser, wires);
        }

        private static boolean canSettle(
                Chains chains, long lesser, int rows, int wires, int questions) {
            if (rows <= 1) {
                return true;
            }
            if (questions <= 0 || rows > 1 << questions) {
                return false;
            }
            for (int one = 0; one < wires; one++) {
                for (int two = one + 1; two < wires; two++) {
                    long byOne = lesser | isLesser(one, two);
                    long byTwo = lesser | isLesser(two, one);
                    int leftByOne = countOf(chains, byOne, wires);
                    int leftByTwo = rows - leftByOne;
                    if (leftByOne > 0 && leftByTwo > 0
                            && canSettle(chains, byOne, leftByOne, wires, questions - 1)
                            && canSettle(chains, byTwo, leftByTwo, wires, questions - 1)) {
                        return true;
                    }
                }
            }
            return false;
        }
    }
}
