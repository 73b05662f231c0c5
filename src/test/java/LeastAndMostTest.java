/**
 * Where the document says what is least and most: networks of 2 and of 6 wires, without comparators
 * and with 24 of them, tapes without characters and with 40, no token and 1000 of them.
 */
public final class LeastAndMostTest {
    private static final String FULL_TEXT = "0:1 2:3 4:5/5:0 4:1 3:2/0:2 1:3/4:0 2:5";

    private interface Call {
        long on(Comparatory house);
    }

    public static void main(String[] args) {
        aNewHouse();
        theFirstCall();
        for (int wires = 2; wires <= 6; wires++) {
            withoutComparators(wires);
            withoutComparatorsAsSwitches(wires);
            withoutComparatorsChanged(wires);
            with24ByAdd(wires);
            with24Alike(wires);
        }
        with24ByMake();
        with24ByBuild();
        from24ToNone();
        theEmptyTape();
        theTapeOf40();
        upTo40();
        faultsOfTheTapeOf40();
        noToken();
        aThousandTokens();
        theRefusedTokenChangesNothing();
        forgottenTokensDoNotCount();
        Due.end();
    }

    /** "Creates a house with a network of 2 wires without comparators; the tape is empty." */
    private static void aNewHouse() {
        Comparatory house = new Comparatory();
        Due.is("1: wires", house.told(0), 2);
        Due.is("1: comparators", house.told(1), 0);
        Due.is("1: the tape", house.fault(), 0);
        Due.is("1: the wire 1", house.token(1), 1);
        Due.noSuch("1: no wire 2", () -> house.token(2));
        Due.is("1: rows left", house.left(), 2);
        Due.is("1: questions needed", house.needed(), 1);
        Due.is("1: characters", house.wipe(), 0);
        Due.is("1: the one before", house.network(2), 0);
        for (String pairs : new String[] {"", "01", "10", "0110", "010101"}) {
            Alike.newHouse(pairs);
            Alike.network(2, pairs);
        }
    }

    /** Each call as the first one of a new house. */
    private static void theFirstCall() {
        Call[] calls = {
            h -> h.network(6), h -> h.add(1, 0), h -> h.make(2), h -> h.untangle(), h -> h.prune(), h -> h.told(0),
            h -> h.told(5), h -> h.textAt(0), h -> h.type('0', 1), h -> h.wipe(), h -> h.fault(), h -> h.run(1),
            h -> h.run(10), h -> h.outputs(), h -> bit(h.sorts()), h -> h.sorted(), h -> h.wrong(0), h -> h.wrong(1),
            h -> h.finishes(0), h -> h.finishes(1), h -> bit(h.merges(1)), h -> bit(h.chooses(1)), h -> h.off(),
            h -> h.routes(), h -> h.setting(10), h -> h.setting(1), h -> h.token(1), h -> h.came(1), h -> h.cameAnew(1),
            h -> bit(h.isStep()), h -> h.hidden(-1L), h -> h.tests(), h -> bit(h.bears()), h -> h.far(0, 1),
            h -> h.far(1, 10), h -> h.step(2, 1), h -> h.step(3, 10), h -> h.manyFar(0, 1), h -> h.manyFar(3, 0),
            h -> bit(h.ask(1, 0)), h -> bit(h.ask(0, 1)), h -> h.left(), h -> h.needed()
        };
        int[] due = {
            0, 0, 1, 0, 0, 2,
            0, ' ', 1, 0, 0, 1,
            10, 15, 0, 1, 1, -1,
            -1, 1, 0, 0, 1,
            1, 0, -1, 1, 0, 0,
            1, 0, 0, 0, 1,
            0, 10, -1, 1, 1,
            0, 1, 2, 1
        };
        Due.is("calls and answers", calls.length, due.length);
        for (int i = 0; i < due.length; i++) {
            int number = i;
            Due.is("1: the first call, number " + i, Due.told(() -> calls[number].on(new Comparatory())), "" + due[i]);
        }
        Due.badState("4: none to take", () -> new Comparatory().take());
        Due.illegal("15: nothing to build", () -> new Comparatory().build());
        Due.noSuch("10: no comparator", () -> new Comparatory().comparator(0, 0));
        Due.noSuch("31: no comparator", () -> new Comparatory().bad(0, 0));
        Due.noSuch("32: no comparator", () -> new Comparatory().tells(0, 0));
        Comparatory mirrored = new Comparatory();
        mirrored.mirror();
        Due.is("6: nothing to mirror", State.of(mirrored), State.of(new Comparatory()));
        Due.is("1: as one that is begun", State.of(new Comparatory()), State.of(Houses.of(2)));
        Due.is("1: and later", State.later(new Comparatory()), State.later(Houses.of(2)));
    }

    private static long bit(boolean is) {
        return is ? 1 : 0;
    }

    private static void withoutComparators(int wires) {
        Comparatory house = Houses.of(wires);
        String on = ", none on " + wires;
        int unsorted = (1 << wires) - wires - 1;
        Due.is("9: wires" + on, house.told(0), wires);
        for (int what = 1; what <= 5; what++) {
            Due.is("9: told " + what + on, house.told(what), 0);
        }
        Due.is("11: the empty text" + on, house.textAt(0), ' ');
        Due.is("17: all rows come out" + on, house.outputs(), wires == 6 ? -1L : (1L << (1 << wires)) - 1);
        Due.is("18: sorts" + on, house.sorts(), false);
        Due.is("19: the sorted row alone" + on, house.sorted(), 1);
        Due.is("20: the first wrong row" + on, house.wrong(0), 1);
        Due.is("20: the last wrong row" + on, house.wrong(unsorted - 1), (1 << wires) - 3);
        Due.is("20: none behind it" + on, house.wrong(unsorted), -1);
        for (int most = 0; most <= 3; most++) {
            int needed = wires == 2 ? 1 : wires == 3 ? 3 : 4;
            Due.is("21: finishes " + most + on, house.finishes(most), most < needed ? -1 : needed);
        }
        for (int wire = 1; wire < wires; wire++) {
            Due.is("22: merges at " + wire + on, house.merges(wire), false);
            Due.is("23: chooses " + wire + on, house.chooses(wire), false);
        }
        Due.is("24: off" + on, house.off(), wires - 1);
        Due.is("33: no fault at all" + on, house.hidden(0), 0);
        Due.is("33: no fault at all, by all rows" + on, house.hidden(-1L), 0);
        Due.is("34: no fault to tell" + on, house.tests(), 0);
        Due.is("35: it does not sort without" + on, house.bears(), false);
        Alike.network(wires, "");
    }

    private static void withoutComparatorsAsSwitches(int wires) {
        Comparatory house = Houses.of(wires);
        String on = ", none on " + wires;
        int sorted = Integer.parseInt("543210".substring(6 - wires));
        Due.is("25: one row" + on, house.routes(), 1);
        int reached = 0;
        for (int i = 0; i < Slow.rows(wires).size(); i += 1 + Slow.rows(wires).size() / 200) {
            int code = Slow.code(Slow.rows(wires).get(i));
            Due.is("16: run " + code + on, house.run(code), code);
            Due.is("26: setting " + code + on, house.setting(code), code == sorted ? 0 : -1);
            reached++;
        }
        Due.is("16: rows asked" + on, reached > 1, true);
        Due.is("26: the sorted row" + on, house.setting(sorted), 0);
        for (int wire = 0; wire < wires; wire++) {
            Due.is("27: straight on" + on, house.token(wire), wire);
            Due.is("28: came there" + on, house.came(wire), 1);
            Due.is("29: came there" + on, house.cameAnew(wire), 1);
        }
        Due.is("30: one each" + on, house.isStep(), true);
    }

    private static void withoutComparatorsChanged(int wires) {
        Comparatory house = Houses.of(wires);
        String on = ", none on " + wires;
        Due.badState("4: take" + on, house::take);
        house.mirror();
        Due.is("7: untangle" + on, house.untangle(), 0);
        Due.is("8: prune" + on, house.prune(), 0);
        Due.is("9: still none" + on, house.told(1), 0);
        Due.is("2: the one before" + on, house.network(wires), 0);
    }

    /** "At most 24": the 24th is taken by add(), the 25th is not. */
    private static void with24ByAdd(int wires) {
        Comparatory house = Houses.of(wires);
        for (int i = 0; i < 24; i++) {
            Due.is("3: its number", house.add(wires - 1, i % (wires - 1)), i);
        }
        Due.badState("3: the 25th", () -> house.add(0, 1));
        Due.is("9: comparators", house.told(1), 24);
        Due.is("9: layers", house.told(2), 24);
        Due.is("9: not straight", house.told(4), 24);
        Due.is("9: length of the text", house.told(5), 95);
        Due.is("10: the last one's first", house.comparator(23, 0), wires - 1);
        Due.is("10: the last one's other", house.comparator(23, 1), 23 % (wires - 1));
        Due.is("10: the last one's layer", house.comparator(23, 2), 23);
        Due.is("11: the last character", house.textAt(94), '0' + 23 % (wires - 1));
        Due.is("11: behind the end", house.textAt(95), ' ');
        Due.is("33: faults", house.hidden(0), 72);
        Due.is("2: the one before", house.network(2), 24);
    }

    private static void with24Alike(int wires) {
        StringBuilder same = new StringBuilder();
        StringBuilder mixed = new StringBuilder();
        StringBuilder straight = new StringBuilder();
        for (int i = 0; i < 24; i++) {
            int first = i * i % wires;
            int other = (first + 1 + i % (wires - 1)) % wires;
            same.append("01");
            mixed.append(first).append(other);
            straight.append(Math.min(first, other)).append(Math.max(first, other));
        }
        Alike.network(wires, same.toString());
        Alike.network(wires, mixed.toString());
        Alike.network(wires, straight.toString());
    }

    /** What make() makes may lead up to 24; one more and it is refused. */
    private static void with24ByMake() {
        for (int wires = 2; wires <= 6; wires++) {
            for (int what = 0; what < 3; what++) {
                int made = Houses.of(wires).make(what);
                Comparatory house = ahead(wires, 24 - made);
                Due.is("5: up to 24, " + what + " on " + wires, house.make(what), made);
                Due.is("5: 24 now", house.told(1), 24);
                Comparatory fuller = ahead(wires, 25 - made);
                int asked = what;
                Due.badState("5: up to 25, " + what + " on " + wires, () -> fuller.make(asked));
                Due.is("5: as many as before", fuller.told(1), 25 - made);
                Due.is("5: not even a part of it", Houses.pairs(fuller), Houses.pairs(ahead(wires, 25 - made)));
            }
        }
    }

    private static Comparatory ahead(int wires, int comparators) {
        Comparatory house = Houses.of(wires);
        for (int i = 0; i < comparators; i++) {
            house.add(1, 0);
        }
        return house;
    }

    /** The same of build(), with one pair and with the ten that the tape has room for. */
    private static void with24ByBuild() {
        for (int pairs = 1; pairs <= 10; pairs++) {
            String text = FULL_TEXT.substring(0, 4 * pairs - 1);
            Comparatory house = ahead(6, 24 - pairs);
            Houses.typeAnew(house, text);
            Due.is("15: up to 24 by " + pairs, house.build(), pairs);
            Due.is("15: 24 now", house.told(1), 24);
            Due.is("15: the tape is empty", house.wipe(), 0);
            Comparatory fuller = ahead(6, 25 - pairs);
            Houses.typeAnew(fuller, text);
            Due.badState("15: up to 25 by " + pairs, fuller::build);
            Due.is("15: as many as before", fuller.told(1), 25 - pairs);
            Due.is("15: the tape stays", fuller.wipe(), text.length());
        }
    }

    private static void from24ToNone() {
        Comparatory house = ahead(3, 23);
        house.add(1, 2);
        for (int left = 23; left >= 0; left--) {
            Due.is("4: left", house.take(), left);
            Due.is("4: comparators", house.told(1), left);
        }
        Due.badState("4: none is left", house::take);
        Due.is("3: the first one again", house.add(0, 2), 0);
        Due.is("4: left", house.take(), 0);
    }

    private static void theEmptyTape() {
        for (int wires = 2; wires <= 6; wires++) {
            Comparatory house = Houses.of(wires);
            Due.is("14: too short", house.fault(), 0);
            Due.illegal("15: no text", house::build);
            Due.is("13: none on it", house.wipe(), 0);
            Due.is("13: none again", house.wipe(), 0);
            Due.is("12: the first one", house.type('0', 1), 1);
            Due.is("13: one on it", house.wipe(), 1);
            Due.is("14: too short again", house.fault(), 0);
        }
    }

    private static Comparatory taped(int signs) {
        Comparatory house = Houses.of(6);
        Houses.typeAnew(house, (FULL_TEXT + "/").substring(0, signs));
        return house;
    }

    /** Of each number of characters, the last one that leads to 40 and the first one that does not. */
    private static void upTo40() {
        for (int n = 1; n <= 8; n++) {
            int more = n;
            Due.is("12: up to 40 by " + n, taped(40 - n).type(Houses.packed("////////"), n), 40);
            Comparatory house = taped(41 - n);
            Due.badState("12: up to 41 by " + n, () -> house.type(Houses.packed("////////"), more));
            Due.is("12: not even a part of them", house.wipe(), 41 - n);
        }
    }

    private static void theTapeOf40() {
        Comparatory house = taped(40);
        Due.is("14: too short for another pair", house.fault(), 40);
        for (int n = 1; n <= 8; n++) {
            int more = n;
            Due.badState("12: no room for " + n, () -> house.type(Houses.packed("01234501"), more));
        }
        Due.illegal("15: no text", house::build);
        Due.is("13: 40 on it", house.wipe(), 40);
        Comparatory text = taped(39);
        Due.is("14: the longest text", text.fault(), -1);
        Due.is("15: ten comparators", text.build(), 10);
        Due.is("15: in the order of the text", Houses.pairs(text), FULL_TEXT.replaceAll("[ :/]", ""));
    }

    /** A character at which the tape ceases to be the beginning of a text, at each place of 40. */
    private static void faultsOfTheTapeOf40() {
        for (int place = 0; place < 40; place++) {
            for (char sign : "012345:/ ".toCharArray()) {
                StringBuilder tape = new StringBuilder(FULL_TEXT + "/");
                tape.setCharAt(place, sign);
                Slow slow = new Slow();
                slow.network(6);
                slow.tape = tape.toString();
                Due.is("14: " + sign + " at " + place, Houses.faultOf(Houses.of(6), tape.toString()), slow.fault());
            }
            StringBuilder tape = new StringBuilder(FULL_TEXT + "/");
            tape.setCharAt(place, place % 4 == 1 || place % 4 == 3 ? '5' : ':');
            Due.is("14: a wrong one at " + place, Houses.faultOf(Houses.of(6), tape.toString()), place);
            Due.is("14: only as long", Houses.faultOf(Houses.of(6), FULL_TEXT.substring(0, place)),
                    place % 4 == 3 ? -1 : place);
        }
    }

    private static void noToken() {
        for (int wires = 2; wires <= 6; wires++) {
            Comparatory house = Houses.made(wires, 0);
            for (int wire = 0; wire < wires; wire++) {
                Due.is("28: none came", house.came(wire), 0);
                Due.is("29: none came", house.cameAnew(wire), 0);
            }
            Due.is("30: none is a step", house.isStep(), true);
        }
    }

    /**
     * The document lets 1000 tokens come; since an object is used for 512 calls, what is
     * behind those is free there, but here the 1000th comes and the next one does not.
     */
    private static void aThousandTokens() {
        Comparatory house = Houses.with(3, "0112");
        for (int i = 1; i <= 999; i++) {
            house.token(i % 3);
        }
        Due.allowed("27: the 1000th", () -> house.token(0));
        Due.is("28: all of them", house.came(0) + house.came(1) + house.came(2), 1000);
        int onTheFirst = house.came(0);
        for (int wire = 0; wire < 3; wire++) {
            int asked = wire;
            Due.badState("27: 1000 came, on " + wire, () -> house.token(asked));
            Due.is("29: as before", house.cameAnew(wire), house.came(wire));
        }
        Due.noSuch("27: no such wire, and 1000 came", () -> house.token(3));
        Due.noSuch("27: below, and 1000 came", () -> house.token(-1));
        Due.is("28: still as many", house.came(0), onTheFirst);
        Due.is("28: still all of them", house.came(0) + house.came(1) + house.came(2), 1000);
    }

    private static Comparatory withAThousand() {
        Comparatory house = Houses.with(4, "013213");
        Houses.typeAnew(house, "3:0 1:2");
        house.ask(3, 1);
        for (int i = 0; i < 1000; i++) {
            house.token(i * i % 4);
        }
        return house;
    }

    /** What no token can tell any more comes to light when the tokens are forgotten. */
    private static void theRefusedTokenChangesNothing() {
        for (int wire = 0; wire < 4; wire++) {
            int asked = wire;
            Comparatory one = withAThousand();
            Comparatory twin = withAThousand();
            Due.badState("27: 1000 came, on " + wire, () -> one.token(asked));
            Due.is("27: as before", State.of(one), State.of(twin));
            one.mirror();
            twin.mirror();
            Due.is("27: later", State.later(one), State.later(twin));
            Comparatory other = withAThousand();
            Due.badState("27: 1000 came, on " + wire, () -> other.token(asked));
            Due.is("27: the tape", State.tapeOf(other), State.tapeOf(withAThousand()));
        }
    }

    private static void forgottenTokensDoNotCount() {
        Comparatory house = new Comparatory();
        for (int i = 0; i < 1000; i++) {
            house.token(1);
        }
        house.mirror();
        Due.is("28: forgotten", house.came(1), 0);
        for (int i = 0; i < 1000; i++) {
            house.token(1);
        }
        Due.is("28: 1000 anew", house.came(1), 1000);
        Due.badState("27: and no more", () -> house.token(1));
    }
}
