import java.util.ArrayList;
import java.util.HashMap;
import java.util.List;
import java.util.Map;

/**
 * The document once more, in the slowest and most literal way: every row sent through every
 * comparator, every choice tried. Comparatory is compared with it.
 */
final class Slow {
    int wires = 2;
    List<int[]> comparators = new ArrayList<>();
    String tape = "";
    final List<Integer> tokens = new ArrayList<>();
    final List<int[]> answers = new ArrayList<>();

    /** Pairs as with Houses.with(). */
    static Slow with(int wires, String pairs) {
        Slow slow = new Slow();
        slow.network(wires);
        for (int i = 0; i < pairs.length(); i += 2) {
            slow.add(pairs.charAt(i) - '0', pairs.charAt(i + 1) - '0');
        }
        return slow;
    }

    // ---- rows

    private static final Map<Integer, List<int[]>> ROWS = new HashMap<>();

    static List<int[]> rows(int wires) {
        return ROWS.computeIfAbsent(wires, n -> {
            List<int[]> all = new ArrayList<>();
            for (int code = 0; code < Math.pow(10, n); code++) {
                if (isCode(code, n)) {
                    all.add(row(code, n));
                }
            }
            return all;
        });
    }

    static boolean isCode(int code, int wires) {
        if (code < 0 || code >= Math.pow(10, wires)) {
            return false;
        }
        boolean[] seen = new boolean[10];
        for (int value : row(code, wires)) {
            seen[value] = true;
        }
        for (int value = 0; value < wires; value++) {
            if (!seen[value]) {
                return false;
            }
        }
        return true;
    }

    static int[] row(int code, int wires) {
        int[] row = new int[wires];
        for (int wire = 0, rest = code; wire < wires; wire++, rest /= 10) {
            row[wire] = rest % 10;
        }
        return row;
    }

    static int code(int[] row) {
        int code = 0;
        for (int wire = row.length - 1; wire >= 0; wire--) {
            code = code * 10 + row[wire];
        }
        return code;
    }

    static int[] bits(int row, int wires) {
        int[] bits = new int[wires];
        for (int wire = 0; wire < wires; wire++) {
            bits[wire] = row >> wire & 1;
        }
        return bits;
    }

    static int told(int[] bits) {
        int row = 0;
        for (int wire = 0; wire < bits.length; wire++) {
            row |= bits[wire] << wire;
        }
        return row;
    }

    static boolean isSorted(int[] row, int from, int to) {
        for (int wire = from; wire + 1 < to; wire++) {
            if (row[wire] > row[wire + 1]) {
                return false;
            }
        }
        return true;
    }

    static boolean isSorted(int[] row) {
        return isSorted(row, 0, row.length);
    }

    static void change(int[] row, int one, int two) {
        int value = row[one];
        row[one] = row[two];
        row[two] = value;
    }

    // ---- what goes through

    static int[] through(List<int[]> comparators, int[] row, int bad, int fault) {
        int[] now = row.clone();
        for (int i = 0; i < comparators.size(); i++) {
            int first = comparators.get(i)[0];
            int other = comparators.get(i)[1];
            boolean changes = now[first] > now[other];
            if (i == bad) {
                changes = fault == 1 || fault == 2 && now[first] < now[other];
            }
            if (changes) {
                change(now, first, other);
            }
        }
        return now;
    }

    int[] through(int[] row) {
        return through(comparators, row, -1, -1);
    }

    static boolean sortsAll(List<int[]> comparators, int wires, int bad, int fault) {
        for (int row = 0; row < 1 << wires; row++) {
            if (!isSorted(through(comparators, bits(row, wires), bad, fault))) {
                return false;
            }
        }
        return true;
    }

    int exchanges(int number) {
        int many = 0;
        for (int row = 0; row < 1 << wires; row++) {
            int[] there = through(comparators.subList(0, number), bits(row, wires), -1, -1);
            int[] pair = comparators.get(number);
            if (there[pair[0]] > there[pair[1]]) {
                many++;
            }
        }
        return many;
    }

    int[] layers() {
        int[] layers = new int[comparators.size()];
        for (int i = 0; i < layers.length; i++) {
            int[] pair = comparators.get(i);
            for (int j = 0; j < i; j++) {
                int[] ahead = comparators.get(j);
                if (ahead[0] == pair[0] || ahead[0] == pair[1] || ahead[1] == pair[0] || ahead[1] == pair[1]) {
                    layers[i] = Math.max(layers[i], layers[j] + 1);
                }
            }
        }
        return layers;
    }

    // ---- networks

    int network(int n) {
        if (n < 2 || n > 6) {
            throw new IllegalArgumentException();
        }
        int before = comparators.size();
        wires = n;
        comparators = new ArrayList<>();
        tokens.clear();
        answers.clear();
        return before;
    }

    private void two(int first, int other) {
        if (first < 0 || other < 0 || first >= wires || other >= wires) {
            throw new IndexOutOfBoundsException();
        }
        if (first == other) {
            throw new IllegalArgumentException();
        }
    }

    private void put(List<int[]> more) {
        if (comparators.size() + more.size() > 24) {
            throw new IllegalStateException();
        }
        comparators.addAll(more);
        tokens.clear();
    }

    int add(int first, int other) {
        two(first, other);
        put(List.of(new int[] {first, other}));
        return comparators.size() - 1;
    }

    int take() {
        if (comparators.isEmpty()) {
            throw new IllegalStateException();
        }
        comparators.remove(comparators.size() - 1);
        tokens.clear();
        return comparators.size();
    }

    int make(int what) {
        if (what < 0 || what > 2) {
            throw new IllegalArgumentException();
        }
        List<int[]> made = what == 0 ? bubble() : what == 1 ? brick() : merge();
        put(made);
        return made.size();
    }

    private List<int[]> bubble() {
        List<int[]> made = new ArrayList<>();
        for (int wire = wires - 1; wire > 0; wire--) {
            for (int i = 1; i <= wire; i++) {
                made.add(new int[] {i - 1, i});
            }
        }
        return made;
    }

    private List<int[]> brick() {
        List<int[]> made = new ArrayList<>();
        for (int time = 0; time < wires; time++) {
            for (int i = 0; i < wires - 1; i++) {
                if (i % 2 == time % 2) {
                    made.add(new int[] {i, i + 1});
                }
            }
        }
        return made;
    }

    private List<int[]> merge() {
        List<int[]> made = new ArrayList<>();
        int t = wires <= 2 ? 2 : wires <= 4 ? 4 : 8;
        for (int p = t / 2; p > 0; p = p / 2) {
            for (int i = 0; i < wires; i++) {
                if ((i & p) == 0 && i + p < wires) {
                    made.add(new int[] {i, i + p});
                }
            }
            for (int q = t / 2; q > p; q = q / 2) {
                for (int i = 0; i < wires; i++) {
                    if ((i & p) != 0 && i + q - p < wires) {
                        made.add(new int[] {i, i + q - p});
                    }
                }
            }
        }
        return made;
    }

    void mirror() {
        comparators.replaceAll(pair -> new int[] {wires - 1 - pair[1], wires - 1 - pair[0]});
        tokens.clear();
    }

    int untangle() {
        int times = 0;
        for (int i = 0; i < comparators.size(); i++) {
            int one = comparators.get(i)[0];
            int two = comparators.get(i)[1];
            if (one > two) {
                times++;
                for (int j = i; j < comparators.size(); j++) {
                    int[] pair = comparators.get(j).clone();
                    for (int side = 0; side < 2; side++) {
                        pair[side] = pair[side] == one ? two : pair[side] == two ? one : pair[side];
                    }
                    comparators.set(j, pair);
                }
            }
        }
        tokens.clear();
        return times;
    }

    int prune() {
        List<int[]> kept = new ArrayList<>();
        for (int i = 0; i < comparators.size(); i++) {
            if (exchanges(i) > 0) {
                kept.add(comparators.get(i));
            }
        }
        int taken = comparators.size() - kept.size();
        comparators = kept;
        tokens.clear();
        return taken;
    }

    int told(int what) {
        int many = 0;
        switch (what) {
            case 0:
                return wires;
            case 1:
                return comparators.size();
            case 2:
                for (int layer : layers()) {
                    many = Math.max(many, layer + 1);
                }
                return many;
            case 3:
                for (int i = 0; i < comparators.size(); i++) {
                    many += exchanges(i) == 0 ? 1 : 0;
                }
                return many;
            case 4:
                for (int[] pair : comparators) {
                    many += pair[0] > pair[1] ? 1 : 0;
                }
                return many;
            case 5:
                return text().length();
            default:
                throw new IllegalArgumentException();
        }
    }

    private void known(int number) {
        if (number < 0 || number >= comparators.size()) {
            throw new IndexOutOfBoundsException();
        }
    }

    int comparator(int number, int what) {
        known(number);
        switch (what) {
            case 0:
            case 1:
                return comparators.get(number)[what];
            case 2:
                return layers()[number];
            case 3:
                return exchanges(number);
            default:
                throw new IllegalArgumentException();
        }
    }

    String text() {
        StringBuilder text = new StringBuilder();
        int[] layers = layers();
        for (int layer = 0; layer < 24; layer++) {
            boolean isFirst = true;
            for (int lower = 0; lower < wires; lower++) {
                for (int i = 0; i < comparators.size(); i++) {
                    int[] pair = comparators.get(i);
                    if (layers[i] == layer && Math.min(pair[0], pair[1]) == lower) {
                        text.append(text.length() == 0 ? "" : isFirst ? "/" : " ");
                        text.append(pair[0]).append(':').append(pair[1]);
                        isFirst = false;
                    }
                }
            }
        }
        return text.toString();
    }

    char textAt(int place) {
        if (place < 0) {
            throw new IndexOutOfBoundsException();
        }
        String text = text();
        return place < text.length() ? text.charAt(place) : ' ';
    }

    // ---- texts

    int type(long characters, int n) {
        if (n < 1 || n > 8) {
            throw new IllegalArgumentException();
        }
        StringBuilder more = new StringBuilder();
        for (int i = 0; i < n; i++) {
            char sign = (char) (characters >> 8 * i & 255);
            if ("012345:/ ".indexOf(sign) < 0) {
                throw new IllegalArgumentException();
            }
            more.append(sign);
        }
        if (tape.length() + n > 40) {
            throw new IllegalStateException();
        }
        tape += more;
        return tape.length();
    }

    int wipe() {
        int before = tape.length();
        tape = "";
        return before;
    }

    private boolean wiresFit(String part) {
        String digits = part.replaceAll("[^0-5]", "");
        for (int i = 0; i < digits.length(); i++) {
            if (digits.charAt(i) - '0' >= wires || digits.indexOf(digits.charAt(i)) != i) {
                return false;
            }
        }
        return true;
    }

    private boolean canBegin(String text) {
        String[] parts = text.split("/", -1);
        for (int i = 0; i < parts.length; i++) {
            boolean isLast = i == parts.length - 1;
            String form = isLast ? "([0-5]:[0-5] )*([0-5](:[0-5]?)?)?" : "([0-5]:[0-5] )*[0-5]:[0-5]";
            if (!parts[i].matches(form) || !wiresFit(parts[i])) {
                return false;
            }
        }
        return true;
    }

    int fault() {
        for (int place = 0; place < tape.length(); place++) {
            if (!canBegin(tape.substring(0, place + 1))) {
                return place;
            }
        }
        return tape.matches("([0-5]:[0-5][ /])*[0-5]:[0-5]") ? -1 : tape.length();
    }

    int build() {
        if (fault() != -1) {
            throw new IllegalArgumentException();
        }
        List<int[]> built = new ArrayList<>();
        for (String pair : tape.split("[ /]")) {
            built.add(new int[] {pair.charAt(0) - '0', pair.charAt(2) - '0'});
        }
        put(built);
        tape = "";
        return built.size();
    }

    // ---- what networks do

    private int[] rowOf(int code) {
        if (!isCode(code, wires)) {
            throw new IllegalArgumentException();
        }
        return row(code, wires);
    }

    int run(int code) {
        return code(through(rowOf(code)));
    }

    long outputs() {
        long out = 0;
        for (int row = 0; row < 1 << wires; row++) {
            out |= 1L << told(through(bits(row, wires)));
        }
        return out;
    }

    boolean sorts() {
        for (int[] row : rows(wires)) {
            if (!isSorted(through(row))) {
                return false;
            }
        }
        return true;
    }

    int sorted() {
        int many = 0;
        for (int[] row : rows(wires)) {
            many += isSorted(through(row)) ? 1 : 0;
        }
        return many;
    }

    int wrong(int place) {
        if (place < 0) {
            throw new IndexOutOfBoundsException();
        }
        List<Integer> wrong = new ArrayList<>();
        for (int row = 0; row < 1 << wires; row++) {
            if (!isSorted(through(bits(row, wires)))) {
                wrong.add(row);
            }
        }
        return place < wrong.size() ? wrong.get(place) : -1;
    }

    int finishes(int most) {
        if (most < 0 || most > 3) {
            throw new IllegalArgumentException();
        }
        for (int many = 0; many <= most; many++) {
            if (finishedBy(comparators, many)) {
                return many;
            }
        }
        return -1;
    }

    private boolean finishedBy(List<int[]> so, int many) {
        if (many == 0) {
            return sortsAll(so, wires, -1, -1);
        }
        for (int first = 0; first < wires; first++) {
            for (int other = first + 1; other < wires; other++) {
                List<int[]> longer = new ArrayList<>(so);
                longer.add(new int[] {first, other});
                if (finishedBy(longer, many - 1)) {
                    return true;
                }
            }
        }
        return false;
    }

    boolean merges(int wire) {
        if (wire < 1 || wire >= wires) {
            throw new IndexOutOfBoundsException();
        }
        for (int row = 0; row < 1 << wires; row++) {
            int[] bits = bits(row, wires);
            boolean both = isSorted(bits, 0, wire) && isSorted(bits, wire, wires);
            if (both && !isSorted(through(bits))) {
                return false;
            }
        }
        return true;
    }

    boolean chooses(int many) {
        if (many < 1 || many >= wires) {
            throw new IllegalArgumentException();
        }
        for (int[] row : rows(wires)) {
            int[] out = through(row);
            for (int wire = many; wire < wires; wire++) {
                if (out[wire] < many) {
                    return false;
                }
            }
        }
        return true;
    }

    int off() {
        int off = 0;
        for (int[] row : rows(wires)) {
            int[] out = through(row);
            for (int wire = 0; wire < wires; wire++) {
                off = Math.max(off, Math.abs(out[wire] - wire));
            }
        }
        return off;
    }

    // ---- switches, balancers

    private Map<Integer, Integer> settings() {
        Map<Integer, Integer> lowest = new HashMap<>();
        int[] sorted = new int[wires];
        for (int wire = 0; wire < wires; wire++) {
            sorted[wire] = wire;
        }
        lowest.put(code(sorted), 0);
        for (int i = 0; i < comparators.size(); i++) {
            Map<Integer, Integer> before = new HashMap<>(lowest);
            for (Map.Entry<Integer, Integer> entry : before.entrySet()) {
                int[] row = row(entry.getKey(), wires);
                change(row, comparators.get(i)[0], comparators.get(i)[1]);
                lowest.merge(code(row), entry.getValue() | 1 << i, Math::min);
            }
        }
        return lowest;
    }

    int routes() {
        return settings().size();
    }

    int setting(int code) {
        rowOf(code);
        return settings().getOrDefault(code, -1);
    }

    private void wire(int wire) {
        if (wire < 0 || wire >= wires) {
            throw new IndexOutOfBoundsException();
        }
    }

    private List<Integer> tokensOut() {
        int[] came = new int[comparators.size()];
        List<Integer> out = new ArrayList<>();
        for (int token : tokens) {
            int at = token;
            for (int i = 0; i < came.length; i++) {
                int[] pair = comparators.get(i);
                if (pair[0] == at || pair[1] == at) {
                    at = pair[came[i] % 2];
                    came[i]++;
                }
            }
            out.add(at);
        }
        return out;
    }

    int token(int wire) {
        wire(wire);
        if (tokens.size() == 1000) {
            throw new IllegalStateException();
        }
        tokens.add(wire);
        return tokensOut().get(tokens.size() - 1);
    }

    private int count(int wire) {
        int many = 0;
        for (int out : tokensOut()) {
            many += out == wire ? 1 : 0;
        }
        return many;
    }

    int came(int wire) {
        wire(wire);
        return count(wire);
    }

    int cameAnew(int wire) {
        return came(wire);
    }

    boolean isStep() {
        for (int lower = 0; lower < wires; lower++) {
            for (int wire = lower + 1; wire < wires; wire++) {
                if (count(wire) > count(lower) || count(lower) > count(wire) + 1) {
                    return false;
                }
            }
        }
        return true;
    }

    // ---- faults

    private void ofFault(int number, int fault) {
        known(number);
        if (fault < 0 || fault > 2) {
            throw new IllegalArgumentException();
        }
    }

    int bad(int number, int fault) {
        ofFault(number, fault);
        int many = 0;
        for (int row = 0; row < 1 << wires; row++) {
            many += isSorted(through(comparators, bits(row, wires), number, fault)) ? 0 : 1;
        }
        return many;
    }

    long tells(int number, int fault) {
        ofFault(number, fault);
        long rows = 0;
        for (int row = 0; row < 1 << wires; row++) {
            int[] bits = bits(row, wires);
            if (told(through(bits)) != told(through(comparators, bits, number, fault))) {
                rows |= 1L << row;
            }
        }
        return rows;
    }

    int hidden(long rows) {
        int many = 0;
        for (int i = 0; i < comparators.size(); i++) {
            for (int fault = 0; fault < 3; fault++) {
                many += (tells(i, fault) & rows) == 0 ? 1 : 0;
            }
        }
        return many;
    }

    int tests() {
        int faults = 3 * comparators.size();
        long[] low = new long[1 << wires];
        long[] high = new long[1 << wires];
        for (int i = 0; i < faults; i++) {
            long set = tells(i / 3, i % 3);
            for (int row = 0; row < 1 << wires; row++) {
                if ((set >>> row & 1) != 0) {
                    low[row] |= i < 64 ? 1L << i : 0;
                    high[row] |= i < 64 ? 0 : 1L << (i - 64);
                }
            }
        }
        long allLow = 0;
        long allHigh = 0;
        for (int row = 0; row < 1 << wires; row++) {
            allLow |= low[row];
            allHigh |= high[row];
        }
        for (int many = 0; many <= 4; many++) {
            if (covers(low, high, 0, allLow, allHigh, many)) {
                return many;
            }
        }
        return -1;
    }

    private static boolean covers(long[] low, long[] high, int from, long restLow, long restHigh, int many) {
        if (restLow == 0 && restHigh == 0) {
            return true;
        }
        if (many == 0) {
            return false;
        }
        for (int row = from; row < low.length; row++) {
            if (covers(low, high, row + 1, restLow & ~low[row], restHigh & ~high[row], many - 1)) {
                return true;
            }
        }
        return false;
    }

    boolean bears() {
        boolean bears = sortsAll(comparators, wires, -1, -1);
        for (int i = 0; i < comparators.size(); i++) {
            bears &= sortsAll(comparators, wires, i, 0);
        }
        return bears;
    }

    // ---- orders

    private static final Map<Integer, Map<Integer, Integer>> FARS = new HashMap<>();

    static List<int[]> behind(int steps, int[] row) {
        List<int[]> behind = new ArrayList<>();
        int n = row.length;
        for (int i = 0; i < n; i++) {
            for (int j = i + 1; j < n; j++) {
                if (steps == 1 || steps == 0 && j == i + 1) {
                    int[] next = row.clone();
                    change(next, i, j);
                    behind.add(next);
                }
                for (int k = j + 1; steps == 3 && k <= n; k++) {
                    int[] next = row.clone();
                    System.arraycopy(row, j, next, i, k - j);
                    System.arraycopy(row, i, next, i + k - j, j - i);
                    behind.add(next);
                }
            }
            if (steps == 2 && i > 0) {
                int[] next = row.clone();
                for (int w = 0; w <= i; w++) {
                    next[w] = row[i - w];
                }
                behind.add(next);
            }
        }
        return behind;
    }

    /** Shortens what is known of each row by its neighbours, until nothing gets shorter. */
    static Map<Integer, Integer> fars(int steps, int wires) {
        return FARS.computeIfAbsent(10 * steps + wires, key -> {
            Map<Integer, Integer> far = new HashMap<>();
            for (int[] row : rows(wires)) {
                far.put(code(row), isSorted(row) ? 0 : 1000);
            }
            boolean again = true;
            while (again) {
                again = false;
                for (int[] row : rows(wires)) {
                    for (int[] next : behind(steps, row)) {
                        if (far.get(code(next)) + 1 < far.get(code(row))) {
                            far.put(code(row), far.get(code(next)) + 1);
                            again = true;
                        }
                    }
                }
            }
            return far;
        });
    }

    private static void ofSteps(int steps) {
        if (steps < 0 || steps > 3) {
            throw new IllegalArgumentException();
        }
    }

    int far(int steps, int code) {
        ofSteps(steps);
        rowOf(code);
        return fars(steps, wires).get(code);
    }

    int step(int steps, int code) {
        int far = far(steps, code);
        int lowest = Integer.MAX_VALUE;
        for (int[] next : behind(steps, row(code, wires))) {
            if (fars(steps, wires).get(code(next)) < far) {
                lowest = Math.min(lowest, code(next));
            }
        }
        return far == 0 ? -1 : lowest;
    }

    int manyFar(int steps, int far) {
        ofSteps(steps);
        if (far < 0) {
            throw new IllegalArgumentException();
        }
        int many = 0;
        for (int each : fars(steps, wires).values()) {
            many += each == far ? 1 : 0;
        }
        return many;
    }

    // ---- questions

    private List<int[]> leftRows() {
        List<int[]> left = new ArrayList<>();
        for (int[] row : rows(wires)) {
            boolean agrees = true;
            for (int[] answer : answers) {
                agrees &= row[answer[0]] < row[answer[1]];
            }
            if (agrees) {
                left.add(row);
            }
        }
        return left;
    }

    boolean ask(int first, int other) {
        two(first, other);
        int byFirst = 0;
        int byOther = 0;
        for (int[] row : leftRows()) {
            if (row[first] < row[other]) {
                byFirst++;
            } else {
                byOther++;
            }
        }
        boolean isFirst = byFirst > byOther || byFirst == byOther && first < other;
        answers.add(isFirst ? new int[] {first, other} : new int[] {other, first});
        return isFirst;
    }

    int left() {
        return leftRows().size();
    }

    private static final Map<Long, Integer> NEEDED = new HashMap<>();

    int needed() {
        if (wires > 4) {
            return -1;
        }
        long set = 0;
        List<int[]> all = rows(wires);
        for (int[] row : leftRows()) {
            set |= 1L << all.indexOf(row);
        }
        return needed(wires, set);
    }

    private static int needed(int wires, long set) {
        if (Long.bitCount(set) <= 1) {
            return 0;
        }
        Integer known = NEEDED.get(set << 3 | wires);
        if (known != null) {
            return known;
        }
        int least = 1000;
        List<int[]> all = rows(wires);
        for (int one = 0; one < wires; one++) {
            for (int two = one + 1; two < wires; two++) {
                long byOne = 0;
                for (int i = 0; i < all.size(); i++) {
                    byOne |= all.get(i)[one] < all.get(i)[two] ? 1L << i : 0;
                }
                if ((set & byOne) != 0 && (set & ~byOne) != 0) {
                    int worst = Math.max(needed(wires, set & byOne), needed(wires, set & ~byOne));
                    least = Math.min(least, 1 + worst);
                }
            }
        }
        NEEDED.put(set << 3 | wires, least);
        return least;
    }
}
