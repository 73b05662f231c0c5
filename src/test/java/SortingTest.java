/** Promises 16 to 24: what comes out of networks, and what they lack. */
public final class SortingTest {
    public static void main(String[] args) {
        promise16();
        promise16Codes();
        promise17();
        promise18();
        promise19();
        promise20();
        promise21();
        promise21Edges();
        promise22();
        promise23();
        promise24();
        Due.end();
    }

    private static Comparatory onePass(int wires) {
        Comparatory house = Houses.of(wires);
        for (int i = 0; i + 1 < wires; i++) {
            house.add(i, i + 1);
        }
        return house;
    }

    private static void promise16() {
        Due.is("16: sorted", Houses.made(4, 2).run(123), 3210);
        Due.is("16: sorted", Houses.made(6, 1).run(12345), 543210);
        Due.is("16: stays", Houses.made(6, 0).run(543210), 543210);
        Due.is("16: a turned one", Houses.with(3, "20").run(210), 12);
        Due.is("16: a turned one that lets go", Houses.with(3, "20").run(12), 12);
        Due.is("16: none there", Houses.of(5).run(41302), 41302);
        Due.is("16: one pass", onePass(4).run(2013), 3201);
        Due.is("16: in order", Houses.with(3, "1201").run(12), 120);
        Due.is("16: in order", Houses.with(3, "0112").run(12), 201);
        Due.is("16: two wires", Houses.with(2, "01").run(1), 10);
        Due.is("16: two wires", Houses.with(2, "01").run(10), 10);
    }

    private static void promise16Codes() {
        Comparatory two = Houses.of(2);
        for (int code : new int[] {0, 11, 100, 110, 101, -1, -10, 2, 20, 21, 1010, Integer.MIN_VALUE, Integer.MAX_VALUE}) {
            Due.illegal("16: code " + code, () -> two.run(code));
        }
        Comparatory four = Houses.of(4);
        for (int code : new int[] {0, 210, 4210, 3211, 13210, 43210, 33210, -3210, 3220, 9}) {
            Due.illegal("16: code " + code, () -> four.run(code));
        }
        Comparatory six = Houses.of(6);
        for (int code : new int[] {543211, 643210, 54320, 1543210, 6543210, 43210, -543210, 2147483647}) {
            Due.illegal("16: code " + code, () -> six.run(code));
        }
        int codes = 0;
        for (int code = -1000; code < 20000; code++) {
            int asked = code;
            String told = Due.told(() -> Houses.of(4).run(asked));
            codes += told.equals(Integer.toString(code)) ? 1 : 0;
        }
        Due.is("16: 24 codes of 4 wires", codes, 24);
    }

    private static void promise17() {
        Due.is("17: all of 2", Houses.of(2).outputs(), 15);
        Due.is("17: sorted ones of 2", Houses.with(2, "01").outputs(), 13);
        Due.is("17: turned ones of 2", Houses.with(2, "10").outputs(), 11);
        Due.is("17: all of 5", Houses.of(5).outputs(), 0xffffffffL);
        Due.is("17: all of 6", Houses.of(6).outputs(), -1L);
        long sorted = 1L | 1L << 32 | 1L << 48 | 1L << 56 | 1L << 60 | 1L << 62 | 1L << 63;
        Due.is("17: sorted ones of 6", Houses.made(6, 2).outputs(), sorted);
        Due.is("17: of 3, one", Houses.with(3, "02").outputs(), 0b11110101);
    }

    private static void promise18() {
        for (int wires = 2; wires <= 6; wires++) {
            Due.is("18: none there", Houses.of(wires).sorts(), false);
            for (int what = 0; what < 3; what++) {
                Comparatory house = Houses.made(wires, what);
                Due.is("18: made", house.sorts(), true);
                house.take();
                Due.is("18: one less", house.sorts(), false);
            }
        }
        Due.is("18: turned", Houses.with(2, "10").sorts(), false);
        Due.is("18: the other way round", Houses.with(3, "102110").sorts(), false);
        Due.is("18: spoilt behind", Houses.with(2, "0110").sorts(), false);
        Due.is("18: mended behind", Houses.with(2, "1001").sorts(), true);
    }

    private static void promise19() {
        int all = 1;
        for (int wires = 2; wires <= 6; wires++) {
            all *= wires;
            Due.is("19: none there", Houses.of(wires).sorted(), 1);
            Due.is("19: one pass", onePass(wires).sorted(), 1 << (wires - 1));
            Due.is("19: all", Houses.made(wires, 2).sorted(), all);
        }
        Due.is("19: one of three", Houses.with(3, "01").sorted(), 2);
        Due.is("19: turned", Houses.with(2, "10").sorted(), 0);
        Due.is("19: one less", Houses.with(4, "02130123").sorted(), 16);
    }

    private static void promise20() {
        Comparatory two = Houses.of(2);
        Due.is("20: of two", two.wrong(0), 1);
        Due.is("20: of two", two.wrong(1), -1);
        Comparatory three = Houses.of(3);
        int[] wrong = {1, 2, 3, 5, -1, -1};
        for (int place = 0; place < wrong.length; place++) {
            Due.is("20: of three", three.wrong(place), wrong[place]);
        }
        Due.is("20: of six, the first", Houses.of(6).wrong(0), 1);
        Due.is("20: of six, the last", Houses.of(6).wrong(56), 61);
        Due.is("20: of six, no more", Houses.of(6).wrong(57), -1);
        Due.is("20: far behind", Houses.of(6).wrong(Integer.MAX_VALUE), -1);
        Due.is("20: sorts", Houses.made(6, 0).wrong(0), -1);
        Due.is("20: the row that goes in", Houses.with(2, "10").wrong(0), 1);
        Due.is("20: the row that goes in", Houses.with(2, "10").wrong(1), 2);
        Due.noSuch("20: below 0", () -> two.wrong(-1));
        Due.noSuch("20: below 0", () -> Houses.made(2, 0).wrong(Integer.MIN_VALUE));
    }

    private static void promise21() {
        int[][] due = {{0, 0, 0, 0}, {-1, 1, 1, 1}, {-1, -1, 2, 2}, {-1, -1, -1, 3}, {-1, -1, -1, -1}};
        Comparatory house = Houses.made(4, 2);
        for (int[] row : due) {
            for (int most = 0; most <= 3; most++) {
                Due.is("21: " + house.told(1) + " of 5, most " + most, house.finishes(most), row[most]);
            }
            house.take();
        }
        Comparatory six = Houses.made(6, 2);
        for (int taken = 0; taken <= 3; taken++) {
            Due.is("21: of 6, without " + taken, six.finishes(3), taken);
            six.take();
        }
        Due.is("21: of 6, without 4", six.finishes(3), -1);
    }

    private static void promise21Edges() {
        Due.is("21: of 2", Houses.of(2).finishes(3), 1);
        Due.is("21: of 3", Houses.of(3).finishes(3), 3);
        Due.is("21: of 3", Houses.of(3).finishes(2), -1);
        Due.is("21: of 4", Houses.of(4).finishes(3), -1);
        Due.is("21: a turned one counts", Houses.with(3, "10").finishes(3), 2);
        Due.is("21: not on neighbours alone", Houses.with(3, "0112").finishes(1), 1);
        Due.is("21: on wires that are none", Houses.with(3, "1201").finishes(2), 1);
        Due.is("21: behind 24", Houses.full(3).finishes(3), 2);
        Comparatory house = Houses.of(3);
        for (int most : new int[] {Integer.MIN_VALUE, -1, 4, Integer.MAX_VALUE}) {
            Due.illegal("21: most " + most, () -> house.finishes(most));
        }
        house.finishes(3);
        Due.is("21: nothing was added", house.told(1), 0);
    }

    private static void promise22() {
        Comparatory merger = Houses.with(4, "021312");
        Due.is("22: at 1", merger.merges(1), false);
        Due.is("22: at 2", merger.merges(2), true);
        Due.is("22: at 3", merger.merges(3), false);
        Comparatory three = Houses.with(3, "0112");
        Due.is("22: one pass, at 1", three.merges(1), true);
        Due.is("22: one pass, at 2", three.merges(2), false);
        three.mirror();
        Due.is("22: mirrored, at 1", Houses.with(3, "1201").merges(1), false);
        Due.is("22: mirrored, at 2", Houses.with(3, "1201").merges(2), true);
        for (int wires = 2; wires <= 6; wires++) {
            Comparatory house = Houses.made(wires, 0);
            for (int wire = 1; wire < wires; wire++) {
                Due.is("22: all", house.merges(wire), true);
                Due.is("22: none", Houses.of(wires).merges(wire), false);
            }
            int none = wires;
            Due.noSuch("22: the wire 0", () -> house.merges(0));
            Due.noSuch("22: no wire", () -> house.merges(none));
            Due.noSuch("22: below", () -> house.merges(-1));
        }
        Due.noSuch("22: extreme", () -> merger.merges(Integer.MAX_VALUE));
        Due.noSuch("22: extreme", () -> merger.merges(Integer.MIN_VALUE));
    }

    private static void promise23() {
        Comparatory pass = onePass(4);
        Due.is("23: one pass, 1", pass.chooses(1), false);
        Due.is("23: one pass, 2", pass.chooses(2), false);
        Due.is("23: one pass, 3", pass.chooses(3), true);
        pass.mirror();
        Due.is("23: mirrored, 1", Houses.with(4, "231201").chooses(1), true);
        Due.is("23: mirrored, 3", Houses.with(4, "231201").chooses(3), false);
        Due.is("23: 2 of 4, by 5", Houses.with(4, "0123021312").chooses(2), true);
        Due.is("23: 2 of 4, by 4", Houses.with(4, "01230213").chooses(2), false);
        Due.is("23: 2 of 4, not 1", Houses.with(4, "01230312").chooses(1), false);
        Due.is("23: 2 of 4, but by halves", Houses.with(4, "01230312").chooses(2), true);
        for (int wires = 2; wires <= 6; wires++) {
            Comparatory house = Houses.made(wires, 1);
            for (int many = 1; many < wires; many++) {
                Due.is("23: all", house.chooses(many), true);
                Due.is("23: none", Houses.of(wires).chooses(many), false);
            }
            int none = wires;
            Due.illegal("23: 0", () -> house.chooses(0));
            Due.illegal("23: all of them", () -> house.chooses(none));
            Due.illegal("23: below", () -> house.chooses(Integer.MIN_VALUE));
            Due.illegal("23: above", () -> house.chooses(Integer.MAX_VALUE));
        }
    }

    private static void promise24() {
        for (int wires = 2; wires <= 6; wires++) {
            Due.is("24: none there", Houses.of(wires).off(), wires - 1);
            Due.is("24: sorts", Houses.made(wires, 2).off(), 0);
            Due.is("24: one pass", onePass(wires).off(), wires - 2);
            Comparatory mirrored = onePass(wires);
            mirrored.mirror();
            Due.is("24: one pass, mirrored", mirrored.off(), wires - 2);
        }
        Due.is("24: turned", Houses.with(2, "10").off(), 1);
        Comparatory house = Houses.made(6, 0);
        house.take();
        Due.is("24: one less", house.off(), 1);
    }
}
