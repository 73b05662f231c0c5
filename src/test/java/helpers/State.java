/** What a house tells of itself, so that two houses that ought to be alike can be compared. */
final class State {
    /** All that can be asked of what a house holds; it takes some 120 calls at the most. */
    static String of(Comparatory house) {
        int wires = house.told(0);
        StringBuilder state = new StringBuilder();
        state.append(wires).append(" wires, comparators ").append(Houses.pairs(house));
        state.append(", fault ").append(house.fault());
        state.append(", outputs ").append(house.outputs());
        state.append(", routes ").append(house.routes());
        state.append(", tokens");
        for (int wire = 0; wire < wires; wire++) {
            state.append(' ').append(house.came(wire)).append('=').append(house.cameAnew(wire));
        }
        state.append(house.isStep() ? ", a step" : ", no step");
        state.append(", left ").append(house.left());
        state.append(", needed ").append(house.needed());
        return state.toString();
    }

    /**
     * What later calls answer, by which everything comes to light that cannot be asked: whose turn
     * it is at each comparator, what is on the tape, what the adversary told. The house is
     * used up by it.
     */
    static String later(Comparatory house) {
        StringBuilder later = new StringBuilder();
        int wires = house.told(0);
        for (int i = 0; i < 3 * wires; i++) {
            later.append(house.token(i * i % wires));
        }
        for (int other = 1; other < wires; other++) {
            later.append(house.ask(0, other) ? " yes " : " no ").append(house.ask(other, other - 1) ? "yes" : "no");
        }
        later.append(", left ").append(house.left());
        int signs = house.wipe();
        later.append(", signs ").append(signs);
        later.append(", took ").append(Due.told(house::take));
        later.append(", routes ").append(house.routes());
        later.append(", added ").append(house.add(0, 1));
        later.append(", had ").append(house.network(3));
        later.append(", left ").append(house.left());
        return later.toString();
    }

    /** The same for the tape alone: its text put behind a house with room, or its length. */
    static String tapeOf(Comparatory house) {
        while (house.told(1) > 0) {
            house.take();
        }
        String built = Due.told(house::build);
        return "built " + built + ", " + Houses.pairs(house) + ", signs " + house.wipe();
    }
}
