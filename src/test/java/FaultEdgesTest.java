/** The sentences of "Faults" at their edges: promises 31 to 35. */
public final class FaultEdgesTest {
    private static final int PASS = Comparatory.PASS, CROSS = Comparatory.CROSS, TURN = Comparatory.TURN;

    public static void main(String[] args) {
        equalValues();
        theFirstAndTheLastComparator();
        badFromNoneToAll();
        toldByNone();
        toldOnAllWires();
        hiddenFromNoneToAll();
        rowsThatThereAreNot();
        theLowestAndTheHighestRow();
        testsFromNoneToFour();
        moreThanFourTests();
        testsOfFaultsThatCannotBeTold();
        testsOfChangedNetworks();
        testsOfThreeComparators();
        testsBySlow();
        bearsWithoutComparators();
        bearsByOneMore();
        bearsPassAlone();
        Due.end();
    }

    /** Two equal values are the same, passed, changed or turned. */
    private static void equalValues() {
        for (int wires = 2; wires <= 6; wires++) {
            Comparatory house = Houses.with(wires, "01");
            long unlike = 0;
            for (int row = 0; row < 1 << wires; row++) {
                unlike |= (row & 1) != (row >> 1 & 1) ? 1L << row : 0;
            }
            Due.is("32: TURN is told by unlike ones", house.tells(0, TURN), unlike);
            Due.is("32: PASS by the greater ahead", house.tells(0, PASS), unlike & 0xAAAAAAAAAAAAAAAAL);
            Due.is("32: CROSS by the lesser ahead", house.tells(0, CROSS), unlike & ~0xAAAAAAAAAAAAAAAAL);
            Comparatory turned = Houses.with(wires, "10");
            Due.is("32: TURN, turned", turned.tells(0, TURN), unlike);
            Due.is("32: PASS, turned", turned.tells(0, PASS), unlike & ~0xAAAAAAAAAAAAAAAAL);
            Due.is("32: CROSS, turned", turned.tells(0, CROSS), unlike & 0xAAAAAAAAAAAAAAAAL);
        }
    }

    private static void theFirstAndTheLastComparator() {
        Comparatory house = Houses.with(3, "010212");
        Slow slow = Slow.with(3, "010212");
        for (int number = 0; number < 3; number++) {
            for (int fault = PASS; fault <= TURN; fault++) {
                Due.is("31: " + fault + " of " + number, house.bad(number, fault), slow.bad(number, fault));
                Due.is("32: " + fault + " of " + number, house.tells(number, fault), slow.tells(number, fault));
            }
        }
        Comparatory full = Houses.full(2);
        for (int fault = PASS; fault <= TURN; fault++) {
            Due.is("31: the first of 24", full.bad(0, fault), 0);
            Due.is("32: the first of 24", full.tells(0, fault), 0);
            Due.is("31: the last but one of 24", full.bad(22, fault), 0);
            Due.is("31: the last of 24", full.bad(23, fault), fault == PASS ? 0 : 2);
            Due.is("32: the last of 24", full.tells(23, fault), fault == PASS ? 0 : 6);
        }
    }

    /** "How many rows do not come out sorted": none, and all but those of one value. */
    private static void badFromNoneToAll() {
        Due.is("31: none", Houses.with(2, "0101").bad(0, TURN), 0);
        Due.is("31: all that can be", Houses.with(2, "01").bad(0, TURN), 2);
        Due.is("31: a fault that mends", Houses.with(2, "10").bad(0, TURN), 0);
        for (int wires = 2; wires <= 6; wires++) {
            Comparatory house = Houses.made(wires, 0);
            int last = house.told(1) - 1;
            for (int fault = PASS; fault <= TURN; fault++) {
                Due.is("31: of " + wires + ", " + fault, house.bad(last, fault), made(wires).bad(last, fault));
                Due.is("31: of " + wires + ", the first, " + fault, house.bad(0, fault), made(wires).bad(0, fault));
            }
        }
        Due.is("31: all 57 of none that sorts", Houses.with(6, "01").bad(0, PASS), 57);
    }

    private static Slow made(int wires) {
        Slow slow = new Slow();
        slow.network(wires);
        slow.make(0);
        return slow;
    }

    /** "A row tells a fault, if it comes out of the network with it otherwise than without." */
    private static void toldByNone() {
        Comparatory dead = Houses.with(3, "0101");
        Due.is("32: PASS of a dead one", dead.tells(1, PASS), 0);
        Due.is("32: CROSS of a dead one", dead.tells(1, CROSS), 0b01100110);
        Due.is("32: TURN of a dead one", dead.tells(1, TURN), 0b01100110);
        Due.is("32: PASS, mended behind", dead.tells(0, PASS), 0);
        Due.is("32: CROSS, mended behind", dead.tells(0, CROSS), 0);
        Due.is("32: TURN, mended behind", dead.tells(0, TURN), 0);
        Comparatory wrong = Houses.with(2, "10");
        Due.is("32: otherwise, though sorted", wrong.tells(0, TURN), 6);
        Due.is("31: and so not bad", wrong.bad(0, TURN), 0);
    }

    private static void toldOnAllWires() {
        Due.is("32: the row 62 and its like", Houses.with(6, "50").tells(0, PASS), 0x5555555500000000L);
        Due.is("32: the row 31 and its like", Houses.with(6, "50").tells(0, CROSS), 0x00000000AAAAAAAAL);
        Due.is("32: neither the row 0 nor 63", Houses.with(6, "50").tells(0, TURN), 0x55555555AAAAAAAAL);
        Due.is("32: as positive as can be", Houses.with(5, "04").tells(0, TURN), 0x5555AAAAL);
    }

    /** "How many of all faults, three of each comparator, no row of a set tells." */
    private static void hiddenFromNoneToAll() {
        for (int many = 0; many <= 24; many++) {
            Comparatory house = Houses.of(6);
            for (int i = 0; i < many; i++) {
                house.add(i % 6, (i + 1) % 6);
            }
            Due.is("33: by no row", house.hidden(0), 3 * many);
            Due.is("33: by the rows of one value", house.hidden(1L << 63 | 1), 3 * many);
        }
        Due.is("33: all are told", Houses.with(2, "01").hidden(6), 0);
        Due.is("33: all but CROSS", Houses.with(2, "01").hidden(2), 1);
        Due.is("33: all but PASS", Houses.with(2, "01").hidden(4), 1);
        Due.is("33: those that cannot be told are hidden", Houses.with(2, "0101").hidden(-1L), 4);
    }

    /** "Those of rows that there are not do not matter." */
    private static void rowsThatThereAreNot() {
        for (int wires = 2; wires <= 5; wires++) {
            Comparatory house = Houses.made(wires, 2);
            int faults = 3 * house.told(1);
            long none = -1L << (1 << wires);
            Due.is("33: none of the rows", house.hidden(none), faults);
            Due.is("33: the first that is none", house.hidden(1L << (1 << wires)), faults);
            Due.is("33: the row 63", house.hidden(1L << 63), faults);
            for (long rows : new long[] {0, 2, 6, 10, ~none}) {
                Due.is("33: with them and without", house.hidden(rows | none), house.hidden(rows));
            }
        }
        Comparatory six = Houses.with(6, "01");
        Due.is("33: of six wires there are all", six.hidden(1L << 62), 1);
        Due.is("33: of six wires the highest ones", six.hidden(-1L << 32), 0);
    }

    /** "That of the row 0 lowest." */
    private static void theLowestAndTheHighestRow() {
        Comparatory six = Houses.with(6, "50");
        Due.is("33: the row 62 tells PASS and TURN", six.hidden(1L << 62), 1);
        Due.is("33: the row 63 tells none", six.hidden(1L << 63), 3);
        Due.is("33: the row 31 tells CROSS and TURN", six.hidden(1L << 31), 1);
        Due.is("33: the row 0 tells none", six.hidden(1), 3);
        Due.is("33: the row 1 tells CROSS and TURN", six.hidden(2), 1);
        Due.is("33: the row 32 tells PASS and TURN", six.hidden(1L << 32), 1);
        Due.is("33: both tell all", six.hidden(1L << 32 | 2), 0);
    }

    /** "The least number of rows that together tell each fault that can be told." */
    private static void testsFromNoneToFour() {
        Due.is("34: 0 of none", Houses.of(2).tests(), 0);
        Due.is("34: 0 of none", Houses.of(6).tests(), 0);
        Due.is("34: 1", Houses.with(2, "0101").tests(), 1);
        Due.is("34: 1 of 24", Houses.full(6).tests(), 1);
        Due.is("34: 2", Houses.with(2, "01").tests(), 2);
        Due.is("34: 2, turned", Houses.with(6, "50").tests(), 2);
        Due.is("34: 3", Houses.with(3, "0201").tests(), 3);
        Due.is("34: 3", Houses.with(3, "2101").tests(), 3);
        Due.is("34: 4", Houses.with(3, "010201").tests(), 4);
        Due.is("34: 4", Houses.with(3, "201201").tests(), 4);
    }

    /** "NONE if more than 4 are needed." */
    private static void moreThanFourTests() {
        Due.is("34: 4 are enough", Houses.with(3, "210201").tests(), 4);
        Due.is("34: 4 are not", Houses.with(3, "100201").tests(), -1);
        Due.is("34: 4 are not", Houses.with(3, "011201").tests(), -1);
        Due.is("34: of a network that sorts", Houses.made(3, 0).tests(), -1);
        for (int wires = 3; wires <= 6; wires++) {
            Due.is("34: of the largest made", Houses.made(wires, 1).tests(), -1);
        }
    }

    /** Faults that cannot be told need no row. */
    private static void testsOfFaultsThatCannotBeTold() {
        Comparatory house = Houses.with(3, "010201");
        int before = house.tests();
        Due.is("34: those of the dead one ahead", before, 4);
        Due.is("33: one cannot be told", house.hidden(-1L), Slow.with(3, "010201").hidden(-1L));
        Comparatory twice = Houses.with(2, "010101");
        Due.is("34: only two of nine can be told", twice.tests(), 1);
        Due.is("33: seven cannot", twice.hidden(-1L), 7);
    }

    /** What was found for a network is not what is due for the one that came of it. */
    private static void testsOfChangedNetworks() {
        Comparatory house = Houses.with(3, "011201");
        Due.is("34: more than 4", house.tests(), -1);
        house.take();
        Due.is("34: behind take", house.tests(), 3);
        house.take();
        Due.is("34: behind take", house.tests(), 2);
        house.add(0, 1);
        Due.is("34: behind add", house.tests(), 1);
        house.mirror();
        Due.is("34: behind mirror", house.tests(), 1);
        house.prune();
        Due.is("34: behind prune", house.tests(), 2);
        house.network(3);
        Due.is("34: behind network", house.tests(), 0);
        Due.is("33: behind network", house.hidden(0), 0);
        house.make(0);
        Due.is("34: behind make", house.tests(), -1);
        Due.is("33: behind make", house.hidden(0), 9);
    }

    private static void testsOfThreeComparators() {
        int[] pairs = {1, 2, 12, 10, 20, 21};
        for (int number = 0; number < 216; number++) {
            String three = two(pairs[number % 6]) + two(pairs[number / 6 % 6]) + two(pairs[number / 36]);
            Due.is("34: " + three, Houses.with(3, three).tests(), Slow.with(3, three).tests());
            String six = three + two(pairs[number * 5 % 6]) + three;
            Due.is("34: " + six, Houses.with(3, six).tests(), Slow.with(3, six).tests());
        }
    }

    private static String two(int pair) {
        return "" + pair / 10 + pair % 10;
    }

    private static void testsBySlow() {
        String[] networks = {"01", "0102", "1002", "0212", "021201", "012002", "102120", "01122001", "0101", "012101"};
        for (int wires = 3; wires <= 6; wires++) {
            for (String pairs : networks) {
                Due.is("34: " + pairs + " on " + wires, Houses.with(wires, pairs).tests(), Slow.with(wires, pairs).tests());
            }
        }
    }

    /** "Sorts with PASS at any one comparator, whichever it is, and without." */
    private static void bearsWithoutComparators() {
        for (int wires = 2; wires <= 6; wires++) {
            Due.is("35: none there does not sort", Houses.of(wires).bears(), false);
            Due.is("35: once is not enough", Houses.made(wires, 2).bears(), false);
        }
        Due.is("35: one that does not sort at all", Houses.with(3, "0101").bears(), false);
    }

    private static void bearsByOneMore() {
        Due.is("35: one", Houses.with(2, "01").bears(), false);
        Due.is("35: two", Houses.with(2, "0101").bears(), true);
        Due.is("35: 24", Houses.full(2).bears(), true);
        Due.is("35: 24 on more wires", Houses.full(3).bears(), false);
        for (int wires = 3; wires <= 4; wires++) {
            Comparatory house = Houses.made(wires, 0);
            Slow slow = made(wires);
            for (int i = 0; i < 12; i++) {
                int first = i % (wires - 1);
                Due.is("35: with " + i + " more on " + wires, house.bears(), slow.bears());
                house.add(first, first + 1);
                slow.add(first, first + 1);
            }
            Due.is("35: at last", house.bears(), true);
        }
        Comparatory six = Houses.made(6, 2);
        six.make(2);
        Due.is("35: twice", six.bears(), true);
        six.take();
        Due.is("35: all but one of twice", six.bears(), bearsBySlow(six));
    }

    private static boolean bearsBySlow(Comparatory house) {
        return Slow.with(house.told(0), Houses.pairs(house)).bears();
    }

    /** It has to bear PASS, no other fault; and at the first comparator as well as at the last one. */
    private static void bearsPassAlone() {
        Comparatory house = Houses.with(2, "0101");
        Due.is("31: bad with CROSS at the last one", house.bad(1, CROSS), 2);
        Due.is("31: bad with TURN at the last one", house.bad(1, TURN), 2);
        Due.is("35: and yet it bears", house.bears(), true);
        Due.is("35: not at the first one", Houses.with(3, "01" + "12" + "12" + "01" + "01").bears(), false);
        Due.is("35: not at the last one", Houses.with(3, "01" + "01" + "12" + "12" + "01").bears(), false);
        Due.is("35: not in the middle", Houses.with(3, "01" + "01" + "12" + "01" + "01").bears(), false);
        Due.is("35: at each", Houses.with(3, "01" + "01" + "12" + "12" + "01" + "01").bears(),
                bearsBySlow(Houses.with(3, "010112120101")));
        Due.is("35: without, it does not sort", Houses.with(2, "010110").bears(), false);
    }
}
