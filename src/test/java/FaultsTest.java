/** Promises 31 to 35: faults, the rows that tell them, and networks that bear them. */
public final class FaultsTest {
    public static void main(String[] args) {
        promise31();
        promise32();
        promise33();
        promise34();
        promise34Made();
        promise35();
        refusals();
        Due.end();
    }

    private static void promise31() {
        Comparatory two = Houses.with(2, "01");
        Due.is("31: PASS", two.bad(0, 0), 1);
        Due.is("31: CROSS", two.bad(0, 1), 1);
        Due.is("31: TURN", two.bad(0, 2), 2);
        Comparatory twice = Houses.with(2, "0101");
        for (int fault = 0; fault < 3; fault++) {
            Due.is("31: mended behind", twice.bad(0, fault), 0);
        }
        Due.is("31: PASS of a dead one", twice.bad(1, 0), 0);
        Due.is("31: CROSS of a dead one", twice.bad(1, 1), 2);
        Due.is("31: TURN of a dead one", twice.bad(1, 2), 2);
        Comparatory turned = Houses.with(2, "10");
        Due.is("31: PASS of a turned one", turned.bad(0, 0), 1);
        Due.is("31: CROSS of a turned one", turned.bad(0, 1), 1);
        Due.is("31: TURN of a turned one", turned.bad(0, 2), 0);
        Due.is("31: others are wrong as well", Houses.with(6, "01").bad(0, 0), 57);
        Due.is("31: of merge", Houses.made(4, 2).bad(4, 0), 2);
    }

    private static void promise32() {
        Comparatory two = Houses.with(2, "01");
        Due.is("32: PASS", two.tells(0, 0), 2);
        Due.is("32: CROSS", two.tells(0, 1), 4);
        Due.is("32: TURN", two.tells(0, 2), 6);
        Comparatory twice = Houses.with(2, "0101");
        for (int fault = 0; fault < 3; fault++) {
            Due.is("32: hidden by the next", twice.tells(0, fault), 0);
        }
        Due.is("32: PASS of a dead one", twice.tells(1, 0), 0);
        Due.is("32: CROSS of a dead one", twice.tells(1, 1), 6);
        Due.is("32: TURN of a dead one", twice.tells(1, 2), 6);
        Comparatory six = Houses.with(6, "05");
        Due.is("32: PASS on 6 wires", six.tells(0, 0), 0x00000000AAAAAAAAL);
        Due.is("32: CROSS on 6 wires", six.tells(0, 1), 0x5555555500000000L);
        Due.is("32: TURN on 6 wires", six.tells(0, 2), 0x55555555AAAAAAAAL);
        Due.is("32: on the highest wires", Houses.with(6, "54").tells(0, 0), 0x0000FFFF00000000L);
    }

    private static void promise33() {
        Comparatory two = Houses.with(2, "01");
        long[] rows = {0, 2, 4, 6, 9, ~6L, -1L, 1L << 63};
        int[] due = {3, 1, 1, 0, 3, 3, 0, 3};
        for (int i = 0; i < rows.length; i++) {
            Due.is("33: " + rows[i], two.hidden(rows[i]), due[i]);
        }
        Due.is("33: cannot be told", Houses.with(2, "0101").hidden(-1L), 4);
        Due.is("33: none there", Houses.of(3).hidden(0), 0);
        Due.is("33: three of each", Houses.made(6, 0).hidden(0), 45);
        Due.is("33: of 24", Houses.full(5).hidden(0), 72);
        Due.is("33: of 24 by all", Houses.full(5).hidden(-1L), 70);
        Due.is("33: the row 63 of 6 wires", Houses.with(6, "05").hidden(1L << 63 | 1), 3);
        Due.is("33: the row 62", Houses.with(6, "05").hidden(1L << 62), 1);
    }

    private static void promise34() {
        Due.is("34: none to tell", Houses.of(5).tests(), 0);
        Due.is("34: of one", Houses.with(2, "01").tests(), 2);
        Due.is("34: only the last can be told", Houses.with(2, "0101").tests(), 1);
        Due.is("34: of 24", Houses.full(6).tests(), 1);
        Due.is("34: two apart", Houses.with(4, "0123").tests(), 2);
        Due.is("34: three apart", Houses.with(6, "054132").tests(), 2);
        Due.is("34: nothing is changed by it", Houses.with(4, "0123").told(1), 2);
    }

    private static void promise34Made() {
        for (int wires = 2; wires <= 5; wires++) {
            for (int what = 0; what < 3; what++) {
                Comparatory house = Houses.made(wires, what);
                Slow slow = new Slow();
                slow.network(wires);
                slow.make(what);
                while (house.told(1) > 0) {
                    Due.is("34: " + house.told(1) + " of " + what + " on " + wires, house.tests(), slow.tests());
                    house.take();
                    slow.take();
                }
            }
        }
        Due.is("34: five or more are needed", Houses.made(4, 2).tests(), -1);
    }

    private static void promise35() {
        Due.is("35: none there", Houses.of(2).bears(), false);
        Due.is("35: one", Houses.with(2, "01").bears(), false);
        Due.is("35: two", Houses.with(2, "0101").bears(), true);
        Due.is("35: a turned one ahead", Houses.with(2, "1001").bears(), false);
        Due.is("35: a turned one behind", Houses.with(2, "010110").bears(), false);
        for (int wires = 2; wires <= 4; wires++) {
            for (int what = 0; what < 3; what++) {
                Comparatory house = Houses.made(wires, what);
                Due.is("35: once", house.bears(), false);
                house.make(what);
                Due.is("35: twice", house.bears(), true);
                for (int i = 0; i < house.told(1); i++) {
                    Due.is("35: PASS at " + i, house.bad(i, 0), 0);
                }
            }
        }
        Comparatory six = Houses.made(6, 2);
        six.make(2);
        Due.is("35: 24 on 6 wires", six.bears(), true);
    }

    private static void refusals() {
        Comparatory house = Houses.with(3, "0112");
        for (int number : new int[] {Integer.MIN_VALUE, -1, 2, 24, Integer.MAX_VALUE}) {
            Due.noSuch("31: comparator " + number, () -> house.bad(number, 0));
            Due.noSuch("32: comparator " + number, () -> house.tells(number, 0));
            Due.noSuch("31: comparator, and fault", () -> house.bad(number, 3));
            Due.noSuch("32: comparator, and fault", () -> house.tells(number, -1));
        }
        for (int fault : new int[] {Integer.MIN_VALUE, -1, 3, Integer.MAX_VALUE}) {
            Due.illegal("31: fault " + fault, () -> house.bad(1, fault));
            Due.illegal("32: fault " + fault, () -> house.tells(0, fault));
        }
    }
}
