/**
 * The range of each argument: the least and the greatest value within it are taken, the next ones
 * below and above are not, nor are those farthest off.
 */
public final class RangesTest {
    private static final String NO_SUCH = IndexOutOfBoundsException.class.getName();
    private static final String ILLEGAL = IllegalArgumentException.class.getName();

    private interface Call {
        long with(int argument);
    }

    public static void main(String[] args) {
        networks();
        for (int wires = 2; wires <= 6; wires++) {
            wiresOf(wires);
            twoWiresOf(wires);
            comparatorsOf(wires, 1);
            comparatorsOf(wires, 2);
            comparatorsOf(wires, 24);
            whats(wires);
            codesOf(wires);
            digitsOf(wires);
        }
        noComparators();
        characters();
        howManyCharacters();
        places();
        Due.end();
    }

    private static boolean isRefused(String told) {
        return told.startsWith("throws.");
    }

    private static void range(String call, String exception, int least, int greatest, Call asked) {
        Due.is(call + " " + least, isRefused(Due.told(() -> asked.with(least))), false);
        Due.is(call + " " + greatest, isRefused(Due.told(() -> asked.with(greatest))), false);
        for (int outside : new int[] {least - 1, greatest + 1, Integer.MIN_VALUE, Integer.MAX_VALUE}) {
            Due.is(call + " " + outside, Due.told(() -> asked.with(outside)), "throws." + exception);
        }
    }

    /** "A network has 2 to 6 wires." */
    private static void networks() {
        range("2: network", ILLEGAL, 2, 6, n -> new Comparatory().network(n));
        for (int wires = 2; wires <= 6; wires++) {
            Due.is("2: wires", Houses.of(wires).told(0), wires);
        }
    }

    private static long bit(boolean is) {
        return is ? 1 : 0;
    }

    /** "Numbered from 0": each call that takes one wire, and how many are chosen. */
    private static void wiresOf(int wires) {
        int last = wires - 1;
        String on = " on " + wires;
        range("22: merges" + on, NO_SUCH, 1, last, wire -> bit(Houses.of(wires).merges(wire)));
        range("23: chooses" + on, ILLEGAL, 1, last, many -> bit(Houses.of(wires).chooses(many)));
        range("27: token" + on, NO_SUCH, 0, last, wire -> Houses.of(wires).token(wire));
        range("28: came" + on, NO_SUCH, 0, last, wire -> Houses.of(wires).came(wire));
        range("29: cameAnew" + on, NO_SUCH, 0, last, wire -> Houses.of(wires).cameAnew(wire));
    }

    /** Both wires of add() and ask(): each pair, and those with a wire below or above. */
    private static void twoWiresOf(int wires) {
        int last = wires - 1;
        for (int one = -2; one <= wires + 1; one++) {
            for (int two = -2; two <= wires + 1; two++) {
                int first = one;
                int other = two;
                boolean isNone = one < 0 || two < 0 || one > last || two > last;
                String due = isNone ? "throws." + NO_SUCH : one == two ? "throws." + ILLEGAL : "0";
                String pair = " " + one + " and " + two + " of " + wires;
                Due.is("3: add" + pair, Due.told(() -> Houses.of(wires).add(first, other)), due);
                String asked = Due.told(() -> bit(Houses.of(wires).ask(first, other)));
                Due.is("39: ask" + pair, asked, !isNone && one < two ? "1" : due);
            }
        }
        for (int far : new int[] {Integer.MIN_VALUE, Integer.MAX_VALUE}) {
            Due.noSuch("3: add, first " + far, () -> Houses.of(wires).add(far, 0));
            Due.noSuch("3: add, other " + far, () -> Houses.of(wires).add(0, far));
            Due.noSuch("3: add, both " + far, () -> Houses.of(wires).add(far, far));
            Due.noSuch("39: ask, first " + far, () -> Houses.of(wires).ask(far, last));
            Due.noSuch("39: ask, other " + far, () -> Houses.of(wires).ask(last, far));
            Due.noSuch("39: ask, both " + far, () -> Houses.of(wires).ask(far, far));
        }
    }

    /** "Comparators, numbered from 0": those of networks with one, with two and with 24. */
    private static void comparatorsOf(int wires, int many) {
        Comparatory house = Houses.of(wires);
        for (int i = 0; i < many; i++) {
            house.add(i % (wires - 1), wires - 1);
        }
        String on = " of " + many + " on " + wires;
        for (int what = 0; what < 4; what++) {
            int asked = what;
            range("10: comparator" + on + ", " + what, NO_SUCH, 0, many - 1, i -> house.comparator(i, asked));
        }
        for (int fault = 0; fault < 3; fault++) {
            int asked = fault;
            range("31: bad" + on + ", " + fault, NO_SUCH, 0, many - 1, i -> house.bad(i, asked));
            range("32: tells" + on + ", " + fault, NO_SUCH, 0, many - 1, i -> house.tells(i, asked));
        }
        int last = many - 1;
        range("10: what" + on, ILLEGAL, 0, 3, what -> house.comparator(last, what));
        range("31: fault" + on, ILLEGAL, 0, 2, fault -> house.bad(last, fault));
        range("32: fault" + on, ILLEGAL, 0, 2, fault -> house.tells(last, fault));
    }

    /** A network without comparators has not even the comparator 0. */
    private static void noComparators() {
        for (int wires = 2; wires <= 6; wires++) {
            Comparatory house = Houses.of(wires);
            for (int i = -1; i <= 1; i++) {
                int asked = i;
                Due.noSuch("10: comparator " + i + " of none", () -> house.comparator(asked, 0));
                Due.noSuch("31: bad " + i + " of none", () -> house.bad(asked, 0));
                Due.noSuch("32: tells " + i + " of none", () -> house.tells(asked, 0));
            }
        }
    }

    private static void whats(int wires) {
        String on = " on " + wires;
        int code = codeOf(wires);
        range("5: make" + on, ILLEGAL, 0, 2, what -> Houses.of(wires).make(what));
        range("9: told" + on, ILLEGAL, 0, 5, what -> Houses.of(wires).told(what));
        range("21: finishes" + on, ILLEGAL, 0, 3, most -> Houses.of(wires).finishes(most));
        range("36: steps" + on, ILLEGAL, 0, 3, steps -> Houses.of(wires).far(steps, code));
        range("37: steps" + on, ILLEGAL, 0, 3, steps -> Houses.of(wires).step(steps, code));
        range("38: steps" + on, ILLEGAL, 0, 3, steps -> Houses.of(wires).manyFar(steps, 0));
        for (int steps = 0; steps < 4; steps++) {
            int asked = steps;
            Due.is("38: far 0" + on, Houses.of(wires).manyFar(steps, 0), 1);
            Due.is("38: however far" + on, Houses.of(wires).manyFar(steps, Integer.MAX_VALUE), 0);
            Due.illegal("38: far below 0" + on, () -> Houses.of(wires).manyFar(asked, -1));
            Due.illegal("38: far as low as can be" + on, () -> Houses.of(wires).manyFar(asked, Integer.MIN_VALUE));
        }
    }

    /** The code of the sorted row: the highest code of all. */
    private static int codeOf(int wires) {
        return new int[] {0, 0, 10, 210, 3210, 43210, 543210}[wires];
    }

    private static void code(int wires, int code) {
        boolean isCode = Slow.isCode(code, wires);
        String call = " " + code + " on " + wires;
        Comparatory house = Houses.of(wires);
        Due.is("16: run" + call, isRefused(Due.told(() -> house.run(code))), !isCode);
        Due.is("26: setting" + call, isRefused(Due.told(() -> house.setting(code))), !isCode);
        for (int steps = 0; steps < 4; steps++) {
            int asked = steps;
            Due.is("36: far" + call, isRefused(Due.told(() -> house.far(asked, code))), !isCode);
            Due.is("37: step" + call, isRefused(Due.told(() -> house.step(asked, code))), !isCode);
        }
        if (!isCode) {
            Due.illegal("16: run" + call, () -> house.run(code));
            Due.illegal("26: setting" + call, () -> house.setting(code));
            Due.illegal("36: far" + call, () -> house.far(3, code));
            Due.illegal("37: step" + call, () -> house.step(0, code));
        }
    }

    /** Every code, and the numbers next to it. */
    private static void codesOf(int wires) {
        for (int[] row : Slow.rows(wires)) {
            for (int near = -1; near <= 1; near++) {
                code(wires, Slow.code(row) + near);
            }
        }
        for (int other = 2; other <= 6; other++) {
            code(wires, codeOf(other));
            code(wires, -codeOf(other));
        }
        for (int far : new int[] {Integer.MIN_VALUE, -10, -1, 0, 1, Integer.MAX_VALUE}) {
            code(wires, far);
        }
    }

    /** "All values from 0 up to one less than there are wires", each on one wire, and no more digits. */
    private static void digitsOf(int wires) {
        int code = codeOf(wires);
        for (int wire = 0, ten = 1; wire < wires; wire++, ten *= 10) {
            for (int value = 0; value <= 9; value++) {
                code(wires, code + (value - wire) * ten);
            }
        }
        for (int above = 1; above <= 9; above++) {
            int ten = (int) Math.pow(10, wires);
            code(wires, code + above * ten);
            code(wires, code - above * ten);
        }
    }

    /** "The tape has at most 40 characters: 0 to 5, :, / and blanks." */
    private static void characters() {
        for (int sign = 0; sign < 256; sign++) {
            boolean isTaken = "012345:/ ".indexOf(sign) >= 0;
            for (int place = 0; place < 8; place++) {
                long blanks = Houses.packed("        ") & ~(255L << (8 * place));
                long signs = blanks | (long) sign << (8 * place);
                int needed = place + 1;
                String call = "12: sign " + sign + " at " + place;
                String due = isTaken ? Integer.toString(needed) : "throws." + ILLEGAL;
                Due.is(call, Due.told(() -> new Comparatory().type(signs, needed)), due);
                if (place > 0) {
                    Due.is(call + ", not one of the n", new Comparatory().type(signs, place), place);
                }
            }
        }
    }

    /** Of n 1 to 8, so many are typed, whatever is above them. */
    private static void howManyCharacters() {
        range("12: type n", ILLEGAL, 1, 8, n -> new Comparatory().type(Houses.packed("        "), n));
        for (int n = 1; n <= 8; n++) {
            Comparatory house = Houses.of(6);
            long above = n == 8 ? 0 : -1L << (8 * n);
            Due.is("12: type " + n, house.type(Houses.packed("0:1/4:5/".substring(0, n)) | above, n), n);
            Due.is("12: type " + n + " more", house.type(Houses.packed("        ".substring(0, n)) | above, n), 2 * n);
            Due.is("12: wipe", house.wipe(), 2 * n);
        }
    }

    /** Places have no greatest one. */
    private static void places() {
        Comparatory house = Houses.with(2, "01");
        Due.allowed("11: place 0", () -> house.textAt(0));
        Due.allowed("11: any place", () -> house.textAt(Integer.MAX_VALUE));
        Due.noSuch("11: place -1", () -> house.textAt(-1));
        Due.noSuch("11: the lowest place", () -> house.textAt(Integer.MIN_VALUE));
        Due.allowed("20: place 0", () -> house.wrong(0));
        Due.allowed("20: any place", () -> house.wrong(Integer.MAX_VALUE));
        Due.noSuch("20: place -1", () -> house.wrong(-1));
        Due.noSuch("20: the lowest place", () -> house.wrong(Integer.MIN_VALUE));
    }
}
