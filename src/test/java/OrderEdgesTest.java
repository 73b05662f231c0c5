/** The sentences of "Orders" at their edges: promises 36 to 38. */
public final class OrderEdgesTest {
    private static final int SWAPS = Comparatory.SWAPS, CHANGES = Comparatory.CHANGES;
    private static final int FLIPS = Comparatory.FLIPS, BLOCKS = Comparatory.BLOCKS;
    private static final int[] SORTED = {0, 0, 10, 210, 3210, 43210, 543210};
    private static final int[] TURNED = {0, 0, 1, 12, 123, 1234, 12345};
    private static final int[] ALL = {1, 1, 2, 6, 24, 120, 720};
    /** By steps and wires, how far the farthest rows are, and how many there are of those. */
    private static final int[][] FARTHEST = {
        {0, 0, 1, 3, 6, 10, 15}, {0, 0, 1, 2, 3, 4, 5}, {0, 0, 1, 3, 4, 5, 7}, {0, 0, 1, 2, 3, 3, 4}
    };
    private static final int[][] SO_FAR = {
        {0, 0, 1, 1, 1, 1, 1}, {0, 0, 1, 2, 6, 24, 120}, {0, 0, 1, 1, 3, 20, 2}, {0, 0, 1, 1, 1, 31, 45}
    };

    public static void main(String[] args) {
        sortedRows();
        oneStepAway();
        neighboursAlone();
        anyTwoWires();
        twoOrMoreFirstWires();
        blocksOfOneOrMore();
        theFarthest();
        theLeastFar();
        allTogether();
        turnedRows();
        theLowestCode();
        stepByStep();
        byTheWiresThereAre();
        whateverTheComparatorsAre();
        Due.end();
    }

    /** "How far a row is": the sorted one not at all, and it alone; there is no step from it. */
    private static void sortedRows() {
        for (int wires = 2; wires <= 6; wires++) {
            Comparatory house = Houses.of(wires);
            for (int steps = SWAPS; steps <= BLOCKS; steps++) {
                Due.is("36: sorted", house.far(steps, SORTED[wires]), 0);
                Due.is("37: sorted", house.step(steps, SORTED[wires]), -1);
                Due.is("38: sorted", house.manyFar(steps, 0), 1);
            }
        }
    }

    /** The last row of which there is a step: one that is 1 far leads to the sorted one. */
    private static void oneStepAway() {
        for (int wires = 2; wires <= 6; wires++) {
            int due = SORTED[wires];
            int swapped = due - 9;
            for (int steps = SWAPS; steps <= BLOCKS; steps++) {
                Due.is("36: 0 and 1 changed", Houses.of(wires).far(steps, swapped), 1);
                Due.is("37: 0 and 1 changed", Houses.of(wires).step(steps, swapped), due);
            }
        }
    }

    /** "With SWAPS two values on neighbouring wires change": the first and the last wire are none. */
    private static void neighboursAlone() {
        Due.is("36: neighbours at the end", Houses.of(6).far(SWAPS, 453210), 1);
        Due.is("36: one between", Houses.of(6).far(SWAPS, 345210), 3);
        Due.is("36: the outer ones of 3", Houses.of(3).far(SWAPS, 12), 3);
        Due.is("36: the outer ones of 6", Houses.of(6).far(SWAPS, 43215), 9);
        for (int wires = 2; wires <= 6; wires++) {
            Due.is("38: one swap less than wires", Houses.of(wires).manyFar(SWAPS, 1), wires - 1);
        }
    }

    /** "With CHANGES two on any wires do": the first and the last wire as well. */
    private static void anyTwoWires() {
        for (int wires = 2; wires <= 6; wires++) {
            Due.is("38: each pair", Houses.of(wires).manyFar(CHANGES, 1), wires * (wires - 1) / 2);
        }
        Due.is("36: the outer ones of 6", Houses.of(6).far(CHANGES, 43215), 1);
        Due.is("37: the outer ones of 6", Houses.of(6).step(CHANGES, 43215), 543210);
        Due.is("36: the inner ones", Houses.of(6).far(CHANGES, 523410), 1);
        Due.is("36: all in a ring", Houses.of(6).far(CHANGES, 432105), 5);
    }

    /** "With FLIPS the values on two or more first wires stand the other way round": up to all. */
    private static void twoOrMoreFirstWires() {
        for (int wires = 2; wires <= 6; wires++) {
            Comparatory house = Houses.of(wires);
            Due.is("38: one flip", house.manyFar(FLIPS, 1), wires - 1);
            for (int first = 2; first <= wires; first++) {
                int code = flipped(wires, first);
                Due.is("36: the first " + first + " of " + wires, house.far(FLIPS, code), 1);
                Due.is("37: the first " + first + " of " + wires, house.step(FLIPS, code), SORTED[wires]);
            }
        }
        Due.is("36: not the last two", Houses.of(3).far(FLIPS, 120), 3);
        Due.is("36: not the inner two", Houses.of(4).far(FLIPS, 3120), 3);
    }

    private static int flipped(int wires, int first) {
        int[] row = new int[wires];
        for (int wire = 0; wire < wires; wire++) {
            row[wire] = wire < first ? first - 1 - wire : wire;
        }
        return Slow.code(row);
    }

    /** "Two rows of neighbouring wires, one behind the other, each of one wire or more, each as it is." */
    private static void blocksOfOneOrMore() {
        Due.is("36: one and one", Houses.of(6).far(BLOCKS, 543201), 1);
        Due.is("36: one and all others", Houses.of(6).far(BLOCKS, 54321), 1);
        Due.is("36: all others and one", Houses.of(6).far(BLOCKS, 432105), 1);
        Due.is("36: three and three", Houses.of(6).far(BLOCKS, 210543), 1);
        Due.is("36: in the middle", Houses.of(6).far(BLOCKS, 523410), 2);
        Due.is("36: two and one in the middle", Houses.of(6).far(BLOCKS, 532410), 2 - 1);
        Due.is("36: not one behind the other", Houses.of(3).far(BLOCKS, 12), 2);
        Due.is("36: turned", Houses.of(6).far(BLOCKS, 12345), 4);
        int[] due = {0, 0, 1, 4, 10, 20, 35};
        for (int wires = 2; wires <= 6; wires++) {
            Due.is("38: one exchange of blocks", Houses.of(wires).manyFar(BLOCKS, 1), due[wires]);
        }
    }

    /** The farthest rows, and that there are none one step farther. */
    private static void theFarthest() {
        for (int wires = 2; wires <= 6; wires++) {
            for (int steps = SWAPS; steps <= BLOCKS; steps++) {
                Comparatory house = Houses.of(wires);
                int farthest = FARTHEST[steps][wires];
                String name = ", steps " + steps + " of " + wires;
                Due.is("38: the farthest" + name, house.manyFar(steps, farthest), SO_FAR[steps][wires]);
                Due.is("38: one farther" + name, house.manyFar(steps, farthest + 1), 0);
                Due.is("38: much farther" + name, house.manyFar(steps, 720), 0);
                Due.is("38: as far as can be told" + name, house.manyFar(steps, Integer.MAX_VALUE), 0);
                Due.is("38: less far" + name, house.manyFar(steps, farthest - 1) > 0, true);
            }
        }
    }

    private static void theLeastFar() {
        Comparatory house = Houses.of(4);
        for (int steps = SWAPS; steps <= BLOCKS; steps++) {
            int asked = steps;
            Due.is("38: not far at all", house.manyFar(steps, 0), 1);
            Due.illegal("38: less than that", () -> house.manyFar(asked, -1));
        }
    }

    private static void allTogether() {
        for (int wires = 2; wires <= 6; wires++) {
            for (int steps = SWAPS; steps <= BLOCKS; steps++) {
                Comparatory house = Houses.of(wires);
                int all = 0;
                for (int far = 0; far <= 20; far++) {
                    all += house.manyFar(steps, far);
                }
                Due.is("38: all rows, steps " + steps, all, ALL[wires]);
            }
        }
    }

    /** The row with the lowest code of all: the sorted one the other way round. */
    private static void turnedRows() {
        int[] blocks = {0, 0, 1, 2, 3, 3, 4};
        for (int wires = 2; wires <= 6; wires++) {
            Comparatory house = Houses.of(wires);
            Due.is("36: by swaps", house.far(SWAPS, TURNED[wires]), wires * (wires - 1) / 2);
            Due.is("36: by changes", house.far(CHANGES, TURNED[wires]), wires / 2);
            Due.is("36: by flips", house.far(FLIPS, TURNED[wires]), 1);
            Due.is("36: by blocks", house.far(BLOCKS, TURNED[wires]), blocks[wires]);
            Due.is("37: by flips", house.step(FLIPS, TURNED[wires]), SORTED[wires]);
        }
    }

    /** "By which it is less far: that with the lowest code": of several, and of one alone. */
    private static void theLowestCode() {
        Due.is("37: the one on the highest wires stays", Houses.of(4).step(SWAPS, 123), 132);
        Due.is("37: of three swaps", Houses.of(3).step(SWAPS, 12), 21);
        Due.is("37: the only one", Houses.of(3).step(SWAPS, 120), 210);
        Due.is("37: of three changes in a ring", Houses.of(3).step(CHANGES, 21), 12);
        Due.is("37: never a farther one, though lower", Houses.of(3).step(SWAPS, 201), 210);
        Due.is("37: never one as far, though lower", Houses.of(3).step(CHANGES, 102), bySlow(3, CHANGES, 102));
        for (int[] row : Slow.rows(4)) {
            int code = Slow.code(row);
            Comparatory house = Houses.of(4);
            for (int steps = SWAPS; steps <= BLOCKS; steps++) {
                Due.is("37: " + code + " by " + steps, house.step(steps, code), bySlow(4, steps, code));
                Due.is("36: " + code + " by " + steps, house.far(steps, code), Slow.fars(steps, 4).get(code));
            }
        }
    }

    private static int bySlow(int wires, int steps, int code) {
        Slow slow = new Slow();
        slow.network(wires);
        return slow.step(steps, code);
    }

    private static void stepByStep() {
        for (int wires = 2; wires <= 6; wires++) {
            for (int steps = SWAPS; steps <= BLOCKS; steps++) {
                Comparatory house = Houses.of(wires);
                int code = TURNED[wires];
                for (int far = house.far(steps, code); far > 0; far--) {
                    code = house.step(steps, code);
                    Due.is("36: one less far", house.far(steps, code), far - 1);
                }
                Due.is("37: sorted at last", code, SORTED[wires]);
                Due.is("37: no step more", house.step(steps, code), -1);
            }
        }
    }

    /** A row is one of all values on the wires that there are now. */
    private static void byTheWiresThereAre() {
        Comparatory house = new Comparatory();
        for (int wires : new int[] {6, 2, 5, 3, 4, 6, 2}) {
            house.network(wires);
            for (int steps = BLOCKS; steps >= SWAPS; steps--) {
                Due.is("36: on " + wires, house.far(steps, TURNED[wires]), Slow.fars(steps, wires).get(TURNED[wires]));
                Due.is("37: on " + wires, house.step(steps, SORTED[wires]), -1);
                Due.is("38: on " + wires, house.manyFar(steps, FARTHEST[steps][wires]), SO_FAR[steps][wires]);
                Due.is("38: none farther on " + wires, house.manyFar(steps, FARTHEST[steps][wires] + 1), 0);
            }
            for (int other = 2; other <= 6; other++) {
                int code = TURNED[other];
                if (other != wires) {
                    Due.illegal("36: " + code + " on " + wires, () -> house.far(0, code));
                    Due.illegal("37: " + code + " on " + wires, () -> house.step(0, code));
                }
            }
        }
    }

    /** Steps are of rows alone: the comparators do not matter. */
    private static void whateverTheComparatorsAre() {
        for (Comparatory house : new Comparatory[] {Houses.of(5), Houses.full(5), Houses.made(5, 0), Houses.with(5, "40")}) {
            Due.is("36: far", house.far(FLIPS, 41302), Slow.fars(FLIPS, 5).get(41302));
            Due.is("37: step", house.step(BLOCKS, 41302), bySlow(5, BLOCKS, 41302));
            Due.is("38: so far", house.manyFar(CHANGES, 4), 24);
        }
    }
}
