/** The sentences of "Switches, balancers" at their edges: promises 25 to 30. */
public final class SwitchEdgesTest {
    public static void main(String[] args) {
        routesOfFew();
        routesOfAll();
        theSettingOfNone();
        theHighestBit();
        theLowestSetting();
        rowsThatCannotComeOut();
        theRowThatGoesIn();
        aboveAndBelowOneTurn();
        inTurn();
        throughAllInOrder();
        cameOnEachWire();
        cameAnewByHalves();
        steps();
        noStepByOne();
        stepsOnSixWires();
        Due.end();
    }

    /** "How many rows can come out, over all settings": one, if there is no comparator. */
    private static void routesOfFew() {
        for (int wires = 2; wires <= 6; wires++) {
            Due.is("25: none there", Houses.of(wires).routes(), 1);
            for (int many = 1; many <= 24; many += many == 1 ? 22 : 1) {
                Comparatory house = Houses.of(wires);
                for (int i = 0; i < many; i++) {
                    house.add(i % 2, (i + 1) % 2);
                }
                Due.is("25: " + many + " of the same wires", house.routes(), 2);
            }
        }
        Due.is("25: apart", Houses.with(6, "012345").routes(), 8);
    }

    private static void routesOfAll() {
        int[] all = {1, 1, 2, 6, 24, 120, 720};
        for (int wires = 2; wires <= 6; wires++) {
            for (int what = 0; what < 2; what++) {
                Comparatory house = Houses.made(wires, what);
                Due.is("25: all of them", house.routes(), all[wires]);
                house.take();
                Due.is("25: fewer", house.routes() < all[wires], true);
                Due.is("25: by Slow", house.routes(), shorter(wires, what).routes());
            }
        }
    }

    private static Slow shorter(int wires, int what) {
        Slow slow = new Slow();
        slow.network(wires);
        slow.make(what);
        slow.take();
        return slow;
    }

    /** "The row in which each value is on the wire of its number": it needs no comparator to change. */
    private static void theSettingOfNone() {
        String sorted = "543210";
        for (int wires = 2; wires <= 6; wires++) {
            int code = Integer.parseInt(sorted.substring(6 - wires));
            Due.is("26: none there", Houses.of(wires).setting(code), 0);
            Due.is("26: by none of 24", Houses.full(wires).setting(code), 0);
            Due.is("26: by none of those made", Houses.made(wires, 1).setting(code), 0);
        }
    }

    /** "As bits, that of the comparator 0 lowest": the comparator 23 has the highest one. */
    private static void theHighestBit() {
        for (int last = 0; last < 24; last++) {
            Comparatory house = Houses.of(4);
            for (int i = 0; i < last; i++) {
                house.add(0, 1);
            }
            house.add(3, 2);
            Due.is("26: only the number " + last, house.setting(2310), 1 << last);
            Due.is("26: and the number 0", house.setting(2301), last == 0 ? -1 : 1 | 1 << last);
        }
        Comparatory all = Houses.of(6);
        for (int i = 0; i < 24; i++) {
            all.add(i % 5, i % 5 + 1);
        }
        Due.is("26: among 24", all.setting(12345), bySlow(all, 12345));
        Due.is("26: among 24", all.setting(501234), bySlow(all, 501234));
    }

    private static int bySlow(Comparatory house, int code) {
        return Slow.with(house.told(0), Houses.pairs(house)).setting(code);
    }

    /** "The lowest setting by which a row comes out." */
    private static void theLowestSetting() {
        Due.is("26: by the first of two", Houses.with(2, "0101").setting(1), 1);
        Due.is("26: not by all of three", Houses.with(2, "010101").setting(1), 1);
        Due.is("26: two low ones rather than a high one", Houses.with(3, "01" + "12" + "01" + "02").setting(12), 7);
        Due.is("26: one high one, if there is no other way", Houses.with(3, "01" + "12" + "02").setting(12), 4);
        for (String pairs : new String[] {"011201120112", "021021201202", "201002121021"}) {
            Comparatory house = Houses.with(3, pairs);
            for (int[] row : Slow.rows(3)) {
                int code = Slow.code(row);
                Due.is("26: " + code + " of " + pairs, house.setting(code), bySlow(house, code));
            }
        }
    }

    /** "NONE if there is none": rows that come out by no setting, and those that just do. */
    private static void rowsThatCannotComeOut() {
        Comparatory apart = Houses.with(4, "0123");
        Due.is("26: both", apart.setting(2301), 3);
        Due.is("26: across", apart.setting(3120), -1);
        Comparatory pass = Houses.with(3, "0112");
        Due.is("26: the 0 on the last wire", pass.setting(21), 3);
        Due.is("26: the 2 on the wire 0", pass.setting(102), -1);
        pass.add(0, 1);
        Due.is("26: with one more", pass.setting(102), 6);
        Due.is("26: none there", Houses.of(2).setting(1), -1);
        Due.is("26: one there", Houses.with(2, "10").setting(1), 1);
        for (int wires = 2; wires <= 5; wires++) {
            Comparatory house = Houses.with(wires, wires == 2 ? "" : "0112");
            int reached = 0;
            for (int[] row : Slow.rows(wires)) {
                reached += house.setting(Slow.code(row)) == -1 ? 0 : 1;
            }
            Due.is("25: as many as have a setting", house.routes(), reached);
        }
    }

    /** Values go on by wires: a comparator changes what is on them, whichever way it compares. */
    private static void theRowThatGoesIn() {
        Due.is("26: straight", Houses.with(3, "0112").setting(21), 3);
        Due.is("26: turned", Houses.with(3, "1021").setting(21), 3);
        Due.is("26: the first one changes first", Houses.with(3, "0112").setting(201), 1);
        Due.is("26: then the other one", Houses.with(3, "0112").setting(120), 2);
        Due.is("26: in the other order", Houses.with(3, "1201").setting(102), 3);
        Due.is("26: in the other order not", Houses.with(3, "1201").setting(21), -1);
    }

    /** A comparator without a token of its own sends its first one to its first wire, the next to its other wire. */
    private static void aboveAndBelowOneTurn() {
        for (int wires = 2; wires <= 6; wires++) {
            for (int other = 1; other < wires; other++) {
                Comparatory straight = Houses.with(wires, "0" + other);
                Comparatory turned = Houses.with(wires, other + "0");
                for (int i = 0; i < 6; i++) {
                    int wire = i % 3 == 0 ? other : 0;
                    Due.is("27: straight", straight.token(wire), i % 2 == 0 ? 0 : other);
                    Due.is("27: turned", turned.token(wire), i % 2 == 0 ? other : 0);
                }
            }
        }
    }

    /** "In turn": by the tokens that come to that comparator, not by those that come at all. */
    private static void inTurn() {
        Comparatory house = Houses.with(4, "0123");
        Due.is("27: the first of 0 and 1", house.token(1), 0);
        Due.is("27: the first of 2 and 3", house.token(3), 2);
        Due.is("27: the second of 2 and 3", house.token(3), 3);
        Due.is("27: the second of 0 and 1", house.token(1), 1);
        Due.is("27: the third of 0 and 1", house.token(1), 0);
        Comparatory past = Houses.with(3, "01");
        Due.is("27: past it", past.token(2), 2);
        Due.is("27: still the first", past.token(0), 0);
    }

    /** "Goes through all comparators that have the wire on which it is then, in order." */
    private static void throughAllInOrder() {
        Comparatory house = Houses.with(3, "0112");
        int[] due = {0, 1, 0, 2, 0, 1, 0, 2};
        for (int i = 0; i < due.length; i++) {
            Due.is("27: on 0, the number " + i, house.token(0), due[i]);
        }
        Due.is("27: on 2, past the first one", house.token(2), 1);
        Comparatory back = Houses.with(3, "1201");
        Due.is("27: not back to those ahead", back.token(0), 0);
        Due.is("27: to the wire 1, and on no more", back.token(0), 1);
        Due.is("27: not counted there", back.token(1), 0);
        Comparatory full = Houses.full(2);
        Due.is("27: through 24", full.token(1), 0);
        Due.is("27: through 24, each in turn", full.token(0), 1);
    }

    private static void cameOnEachWire() {
        for (int wires = 2; wires <= 6; wires++) {
            Comparatory house = Houses.of(wires);
            for (int wire = 0; wire < wires; wire++) {
                for (int i = 0; i <= wire; i++) {
                    house.token(wire);
                }
            }
            for (int wire = 0; wire < wires; wire++) {
                Due.is("28: on " + wire, house.came(wire), wire + 1);
                Due.is("29: on " + wire, house.cameAnew(wire), wire + 1);
            }
        }
        Comparatory last = Houses.with(6, "05");
        last.token(0);
        last.token(0);
        Due.is("28: on the last wire", last.came(5), 1);
        Due.is("28: on the first wire", last.came(0), 1);
        Due.is("28: on another wire", last.came(4), 0);
    }

    /** "Found from how many came on each wire alone": even and odd sums. */
    private static void cameAnewByHalves() {
        for (int tokens = 0; tokens <= 9; tokens++) {
            Comparatory straight = Houses.with(2, "01");
            Comparatory turned = Houses.with(2, "10");
            for (int i = 0; i < tokens; i++) {
                straight.token(i % 3 == 0 ? 1 : 0);
                turned.token(i % 3 == 0 ? 0 : 1);
            }
            Due.is("29: the first wire of " + tokens, straight.cameAnew(0), (tokens + 1) / 2);
            Due.is("29: the other wire of " + tokens, straight.cameAnew(1), tokens / 2);
            Due.is("29: turned, the first wire of " + tokens, turned.cameAnew(1), (tokens + 1) / 2);
            Due.is("29: turned, the other wire of " + tokens, turned.cameAnew(0), tokens / 2);
        }
    }

    /** "No wire has more than one with a lower number, and none more than 1 more than another one." */
    private static void steps() {
        for (int one = 0; one <= 4; one++) {
            for (int two = 0; two <= 4; two++) {
                for (int three = 0; three <= 4; three++) {
                    Comparatory house = Houses.of(3);
                    come(house, 0, one);
                    come(house, 1, two);
                    come(house, 2, three);
                    boolean due = one >= two && two >= three && one - three <= 1;
                    Due.is("30: " + one + " " + two + " " + three, house.isStep(), due);
                }
            }
        }
    }

    private static void come(Comparatory house, int wire, int tokens) {
        for (int i = 0; i < tokens; i++) {
            house.token(wire);
        }
    }

    /** Each neighbour differs by no more than 1, but the first and the last one by 2. */
    private static void noStepByOne() {
        Comparatory house = Houses.of(3);
        come(house, 0, 2);
        come(house, 1, 1);
        Due.is("30: 2 1 0", house.isStep(), false);
        come(house, 2, 1);
        Due.is("30: 2 1 1", house.isStep(), true);
        come(house, 1, 1);
        Due.is("30: 2 2 1", house.isStep(), true);
        come(house, 2, 1);
        Due.is("30: 2 2 2", house.isStep(), true);
        come(house, 2, 1);
        Due.is("30: 2 2 3", house.isStep(), false);
    }

    private static void stepsOnSixWires() {
        for (int wires = 2; wires <= 6; wires++) {
            Comparatory house = Houses.of(wires);
            for (int i = 0; i < 3 * wires; i++) {
                Due.is("30: one wire behind the other", house.isStep(), true);
                house.token(i % wires);
            }
            house.token(wires - 1);
            Due.is("30: one too many on the last wire", house.isStep(), false);
            Comparatory first = Houses.of(wires);
            first.token(0);
            Due.is("30: one on the wire 0", first.isStep(), true);
            first.token(0);
            Due.is("30: two on the wire 0", first.isStep(), false);
            Comparatory last = Houses.of(wires);
            last.token(wires - 1);
            Due.is("30: one on the last wire", last.isStep(), false);
        }
    }
}
