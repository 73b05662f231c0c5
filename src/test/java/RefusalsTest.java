/**
 * "A call that throws an exception changes nothing; if several exceptions apply, the one that its
 * throws clause names first is thrown." Each refused call is made on a house of each kind, which is
 * compared with a twin that was spared the call: as it can be asked, by later calls, and by its tape.
 */
public final class RefusalsTest {
    private static final String NO_SUCH = IndexOutOfBoundsException.class.getName();
    private static final String ILLEGAL = IllegalArgumentException.class.getName();
    private static final String BAD_STATE = IllegalStateException.class.getName();

    private static final int NEW = 0, BEGUN = 1, BARE = 2, FULL = 3, FULL_TAPE = 4;
    private static final int[] EACH = {NEW, BEGUN, BARE, FULL, FULL_TAPE};
    private static final int[] WITH_COMPARATORS = {BEGUN, FULL, FULL_TAPE};
    private static final int[] WITHOUT_COMPARATORS = {NEW, BARE};
    private static final int[] WITH_24 = {FULL, FULL_TAPE};
    private static final int[] WITHOUT_A_TEXT = {NEW, BEGUN, FULL_TAPE};

    private interface Call {
        long on(Comparatory house);
    }

    public static void main(String[] args) {
        theHousesAreUnlike();
        networks();
        severalOfNetworks();
        told();
        texts();
        severalOfTexts();
        whatNetworksDo();
        balancers();
        faults();
        orders();
        questions();
        askingChangesNothing();
        Due.end();
    }

    private static Comparatory house(int kind) {
        switch (kind) {
            case NEW:
                return new Comparatory();
            case BEGUN:
                return used(Houses.with(4, "0123213203"), "0:1 2");
            case BARE:
                return used(Houses.of(3), "1:2");
            case FULL:
                return used(full(), "0:1 2:3/4:0 3:1/1:2 0:3/3:4 2:1/0:2 1:4");
            default:
                return used(full(), "0:1 2:3/4:0 3:1/1:2 0:3/3:4 2:1/0:2 1:4/");
        }
    }

    private static Comparatory full() {
        Comparatory house = Houses.of(5);
        for (int i = 0; i < 24; i++) {
            house.add(i % 5, (i + 1 + i / 5 % 4) % 5);
        }
        return house;
    }

    /** With tokens, an odd number of them at some comparators, with questions, and with a tape. */
    private static Comparatory used(Comparatory house, String tape) {
        int wires = house.told(0);
        for (int i = 0; i < 7; i++) {
            house.token(i * 5 % wires);
        }
        house.ask(0, 1);
        house.ask(2, 1);
        Houses.typeAnew(house, tape);
        return house;
    }

    private static void refused(String call, String exception, int[] kinds, Call refused) {
        for (int kind : kinds) {
            String name = call + ", house " + kind;
            Comparatory one = house(kind);
            Due.is(name, Due.told(() -> refused.on(one)), "throws." + exception);
            Due.is(name + ": as before", State.of(one), State.of(house(kind)));
            Due.is(name + ": later", State.later(one), State.later(house(kind)));
            Comparatory other = house(kind);
            Due.told(() -> refused.on(other));
            Due.is(name + ": the tape", State.tapeOf(other), State.tapeOf(house(kind)));
        }
    }

    /** A comparison of houses is worth nothing, if it cannot tell them apart. */
    private static void theHousesAreUnlike() {
        for (int kind : EACH) {
            for (int other : EACH) {
                boolean isSame = kind == other;
                Due.is("state " + kind + " " + other, State.of(house(kind)).equals(State.of(house(other))), isSame);
                Due.is("later " + kind + " " + other, State.later(house(kind)).equals(State.later(house(other))), isSame);
            }
        }
        Due.is("the tape of the full one", State.tapeOf(house(FULL)), "built 10, 01234031120334210214, signs 0");
        Due.is("the full tape", State.tapeOf(house(FULL_TAPE)), "built throws." + ILLEGAL + ", , signs 40");
    }

    private static void networks() {
        for (int wires : new int[] {Integer.MIN_VALUE, -1, 0, 1, 7, 8, Integer.MAX_VALUE}) {
            refused("2: network " + wires, ILLEGAL, EACH, h -> h.network(wires));
        }
        refused("3: first below", NO_SUCH, EACH, h -> h.add(-1, 0));
        refused("3: other below", NO_SUCH, EACH, h -> h.add(0, -1));
        refused("3: first too high", NO_SUCH, EACH, h -> h.add(h.told(0), 0));
        refused("3: other too high", NO_SUCH, EACH, h -> h.add(0, h.told(0)));
        refused("3: the same, lowest", ILLEGAL, EACH, h -> h.add(0, 0));
        refused("3: the same, highest", ILLEGAL, EACH, h -> h.add(h.told(0) - 1, h.told(0) - 1));
        refused("3: there are 24", BAD_STATE, WITH_24, h -> h.add(0, 1));
        refused("4: there is none", BAD_STATE, WITHOUT_COMPARATORS, h -> h.take());
        for (int what : new int[] {Integer.MIN_VALUE, -1, 3, Integer.MAX_VALUE}) {
            refused("5: make " + what, ILLEGAL, EACH, h -> h.make(what));
        }
        for (int what = 0; what < 3; what++) {
            int made = what;
            refused("5: too many, make " + what, BAD_STATE, WITH_24, h -> h.make(made));
        }
    }

    private static void severalOfNetworks() {
        refused("3: no such wire, and the same", NO_SUCH, EACH, h -> h.add(h.told(0), h.told(0)));
        refused("3: no such wire, and the same, below", NO_SUCH, EACH, h -> h.add(-1, -1));
        refused("3: no such first wire, and 24", NO_SUCH, WITH_24, h -> h.add(5, 0));
        refused("3: no such other wire, and 24", NO_SUCH, WITH_24, h -> h.add(0, 5));
        refused("3: all three", NO_SUCH, WITH_24, h -> h.add(5, 5));
        refused("3: the same, and 24", ILLEGAL, WITH_24, h -> h.add(4, 4));
        refused("5: what, and 24", ILLEGAL, WITH_24, h -> h.make(3));
        refused("5: what below, and 24", ILLEGAL, WITH_24, h -> h.make(-1));
    }

    private static void told() {
        for (int what : new int[] {Integer.MIN_VALUE, -1, 6, Integer.MAX_VALUE}) {
            refused("9: told " + what, ILLEGAL, EACH, h -> h.told(what));
            refused("10: no such, and what " + what, NO_SUCH, EACH, h -> h.comparator(h.told(1), what));
            refused("10: below, and what " + what, NO_SUCH, EACH, h -> h.comparator(-1, what));
        }
        for (int what : new int[] {Integer.MIN_VALUE, -1, 4, Integer.MAX_VALUE}) {
            refused("10: what " + what, ILLEGAL, WITH_COMPARATORS, h -> h.comparator(h.told(1) - 1, what));
            refused("10: what " + what + " of the first", ILLEGAL, WITH_COMPARATORS, h -> h.comparator(0, what));
        }
        for (int what = 0; what < 4; what++) {
            int asked = what;
            refused("10: no such", NO_SUCH, EACH, h -> h.comparator(h.told(1), asked));
            refused("10: below", NO_SUCH, EACH, h -> h.comparator(-1, asked));
        }
        refused("11: below", NO_SUCH, EACH, h -> h.textAt(-1));
        refused("11: far below", NO_SUCH, EACH, h -> h.textAt(Integer.MIN_VALUE));
    }

    private static void texts() {
        for (int n : new int[] {Integer.MIN_VALUE, -1, 0, 9, Integer.MAX_VALUE}) {
            refused("12: n " + n, ILLEGAL, EACH, h -> h.type(Houses.packed("00000000"), n));
        }
        for (String signs : new String[] {"6", "!", ".", ";", "\0", "\u00b0", "0:1 2:36", "6:1", "0;1"}) {
            refused("12: signs " + signs, ILLEGAL, EACH, h -> h.type(Houses.packed(signs), signs.length()));
        }
        int[] fullTape = {FULL_TAPE};
        for (int n = 1; n <= 8; n++) {
            int many = n;
            refused("12: " + n + " on 40", BAD_STATE, fullTape, h -> h.type(Houses.packed("        "), many));
        }
        int[] tapeOf39 = {FULL};
        for (int n = 2; n <= 8; n++) {
            int many = n;
            refused("12: " + n + " on 39", BAD_STATE, tapeOf39, h -> h.type(Houses.packed("/0:1 2:3"), many));
        }
        refused("15: no text", ILLEGAL, WITHOUT_A_TEXT, h -> h.build());
        refused("15: there would be 34", BAD_STATE, tapeOf39, h -> h.build());
    }

    private static void severalOfTexts() {
        int[] fullTape = {FULL_TAPE};
        refused("12: n 0, and 40", ILLEGAL, fullTape, h -> h.type(Houses.packed("00000000"), 0));
        refused("12: n 9, and 40", ILLEGAL, fullTape, h -> h.type(Houses.packed("00000000"), 9));
        refused("12: a sign, and 40", ILLEGAL, fullTape, h -> h.type('6', 1));
        refused("12: the last sign, and 40", ILLEGAL, fullTape, h -> h.type(Houses.packed("0000000x"), 8));
        refused("12: a sign, and 39", ILLEGAL, new int[] {FULL}, h -> h.type(Houses.packed("/x"), 2));
        refused("15: no text, and 24", ILLEGAL, fullTape, h -> h.build());
    }

    private static void whatNetworksDo() {
        for (int code : new int[] {Integer.MIN_VALUE, -1, 0, 11, 121, 3211, 543211, Integer.MAX_VALUE}) {
            refused("16: run " + code, ILLEGAL, EACH, h -> h.run(code));
            refused("26: setting " + code, ILLEGAL, EACH, h -> h.setting(code));
        }
        refused("20: below", NO_SUCH, EACH, h -> h.wrong(-1));
        refused("20: far below", NO_SUCH, EACH, h -> h.wrong(Integer.MIN_VALUE));
        for (int most : new int[] {Integer.MIN_VALUE, -1, 4, Integer.MAX_VALUE}) {
            refused("21: finishes " + most, ILLEGAL, EACH, h -> h.finishes(most));
        }
        for (int wire : new int[] {Integer.MIN_VALUE, -1, 0, 6, Integer.MAX_VALUE}) {
            refused("22: merges " + wire, NO_SUCH, EACH, h -> h.merges(wire) ? 1 : 0);
            refused("23: chooses " + wire, ILLEGAL, EACH, h -> h.chooses(wire) ? 1 : 0);
        }
        refused("22: no such wire", NO_SUCH, EACH, h -> h.merges(h.told(0)) ? 1 : 0);
        refused("23: as many as wires", ILLEGAL, EACH, h -> h.chooses(h.told(0)) ? 1 : 0);
    }

    private static void balancers() {
        for (int wire : new int[] {Integer.MIN_VALUE, -1, 6, Integer.MAX_VALUE}) {
            refused("27: token " + wire, NO_SUCH, EACH, h -> h.token(wire));
            refused("28: came " + wire, NO_SUCH, EACH, h -> h.came(wire));
            refused("29: cameAnew " + wire, NO_SUCH, EACH, h -> h.cameAnew(wire));
        }
        refused("27: no such wire", NO_SUCH, EACH, h -> h.token(h.told(0)));
        refused("28: no such wire", NO_SUCH, EACH, h -> h.came(h.told(0)));
        refused("29: no such wire", NO_SUCH, EACH, h -> h.cameAnew(h.told(0)));
    }

    private static void faults() {
        for (int fault = -1; fault <= 3; fault++) {
            int asked = fault;
            refused("31: no such, fault " + fault, NO_SUCH, EACH, h -> h.bad(h.told(1), asked));
            refused("31: below, fault " + fault, NO_SUCH, EACH, h -> h.bad(-1, asked));
            refused("32: no such, fault " + fault, NO_SUCH, EACH, h -> h.tells(h.told(1), asked));
            refused("32: below, fault " + fault, NO_SUCH, EACH, h -> h.tells(-1, asked));
        }
        for (int fault : new int[] {Integer.MIN_VALUE, -1, 3, Integer.MAX_VALUE}) {
            refused("31: fault " + fault, ILLEGAL, WITH_COMPARATORS, h -> h.bad(h.told(1) - 1, fault));
            refused("32: fault " + fault, ILLEGAL, WITH_COMPARATORS, h -> h.tells(0, fault));
        }
    }

    private static int sortedCode(Comparatory house) {
        int code = 0;
        for (int value = house.told(0) - 1; value >= 0; value--) {
            code = 10 * code + value;
        }
        return code;
    }

    private static void orders() {
        for (int steps : new int[] {Integer.MIN_VALUE, -1, 4, Integer.MAX_VALUE}) {
            refused("36: steps " + steps, ILLEGAL, EACH, h -> h.far(steps, sortedCode(h)));
            refused("37: steps " + steps, ILLEGAL, EACH, h -> h.step(steps, sortedCode(h)));
            refused("38: steps " + steps, ILLEGAL, EACH, h -> h.manyFar(steps, 0));
            refused("36: steps, and code", ILLEGAL, EACH, h -> h.far(steps, 0));
            refused("38: steps, and far", ILLEGAL, EACH, h -> h.manyFar(steps, -1));
        }
        for (int steps = 0; steps < 4; steps++) {
            int asked = steps;
            refused("36: code, steps " + steps, ILLEGAL, EACH, h -> h.far(asked, sortedCode(h) + 1));
            refused("37: code, steps " + steps, ILLEGAL, EACH, h -> h.step(asked, -sortedCode(h)));
            refused("38: far below, steps " + steps, ILLEGAL, EACH, h -> h.manyFar(asked, -1));
        }
    }

    private static void questions() {
        refused("39: first below", NO_SUCH, EACH, h -> h.ask(-1, 0) ? 1 : 0);
        refused("39: other below", NO_SUCH, EACH, h -> h.ask(0, -1) ? 1 : 0);
        refused("39: first too high", NO_SUCH, EACH, h -> h.ask(h.told(0), 0) ? 1 : 0);
        refused("39: other too high", NO_SUCH, EACH, h -> h.ask(0, h.told(0)) ? 1 : 0);
        refused("39: the same, lowest", ILLEGAL, EACH, h -> h.ask(0, 0) ? 1 : 0);
        refused("39: the same, highest", ILLEGAL, EACH, h -> h.ask(h.told(0) - 1, h.told(0) - 1) ? 1 : 0);
        refused("39: no such wire, and the same", NO_SUCH, EACH, h -> h.ask(h.told(0), h.told(0)) ? 1 : 0);
        refused("39: below, and the same", NO_SUCH, EACH, h -> h.ask(-1, -1) ? 1 : 0);
    }

    /** "Wires, comparators, characters, tokens and questions come by calls; all else is asked, and changes nothing." */
    private static void askingChangesNothing() {
        for (int kind : EACH) {
            Comparatory one = house(kind);
            askAll(one);
            Due.is("asked: as before, house " + kind, State.of(one), State.of(house(kind)));
            Due.is("asked: later, house " + kind, State.later(one), State.later(house(kind)));
            Comparatory other = house(kind);
            askAll(other);
            Due.is("asked: the tape, house " + kind, State.tapeOf(other), State.tapeOf(house(kind)));
        }
    }

    private static void askAll(Comparatory house) {
        int code = sortedCode(house);
        for (int what = 0; what < 6; what++) {
            house.told(what);
        }
        for (int i = 0; i < house.told(1); i += 5) {
            house.comparator(i, 3);
            house.bad(i, 1);
            house.tells(i, 2);
        }
        house.textAt(3);
        house.fault();
        house.run(code);
        house.outputs();
        house.sorts();
        house.sorted();
        house.wrong(1);
        house.finishes(2);
        house.merges(1);
        house.chooses(1);
        house.off();
        house.routes();
        house.setting(code);
        house.came(1);
        house.cameAnew(0);
        house.isStep();
        house.hidden(5);
        house.tests();
        house.bears();
        for (int steps = 0; steps < 4; steps++) {
            house.far(steps, code);
            house.step(steps, code);
            house.manyFar(steps, 1);
        }
        house.left();
        house.needed();
    }
}
