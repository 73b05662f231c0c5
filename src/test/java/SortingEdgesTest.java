/** What comes out of networks, at its edges: promises 16 to 24. */
public final class SortingEdgesTest {
    public static void main(String[] args) {
        rowsAndCodes();
        everyRowOfBits();
        sortedRows();
        allButOneRow();
        smallNetworks();
        theSetOfRows();
        howManyComeOutSorted();
        wrongRows();
        noWrongRow();
        finishedByNone();
        theLeastThatFinish();
        moreThanMost();
        straightOnesAlone();
        mergesAtTheFirstAndTheLastWire();
        mergesOnlySuchRows();
        choosesOneAndAllButOne();
        choosesInAnyOrder();
        offByNone();
        offByTheMost();
        Due.end();
    }

    /** "The value on the wire 0, 10 times that on the wire 1, 100 times that on the wire 2, and so on." */
    private static void rowsAndCodes() {
        Due.is("16: 1 on the wire 0", Houses.with(2, "01").run(1), 10);
        Due.is("16: 0 on the wire 0", Houses.with(2, "10").run(10), 1);
        int[] lowest = {0, 0, 1, 12, 123, 1234, 12345};
        int[] highest = {0, 0, 10, 210, 3210, 43210, 543210};
        for (int wires = 2; wires <= 6; wires++) {
            Due.is("16: the lowest code", Houses.made(wires, 0).run(lowest[wires]), highest[wires]);
            Due.is("16: the highest code", Houses.made(wires, 0).run(highest[wires]), highest[wires]);
            Comparatory turned = Houses.of(wires);
            for (int i = 0; i < wires; i++) {
                for (int wire = i % 2; wire + 1 < wires; wire += 2) {
                    turned.add(wire + 1, wire);
                }
            }
            Due.is("16: the highest code, turned", turned.run(highest[wires]), lowest[wires]);
            Due.is("16: the lowest code, turned", turned.run(lowest[wires]), lowest[wires]);
        }
        Due.is("16: only its wires", Houses.with(6, "50").run(543210), 43215);
        Due.is("16: only its wires", Houses.with(6, "05").run(43215), 543210);
    }

    /** "A row of noughts and ones is told as bits, that of the wire 0 lowest." */
    private static void everyRowOfBits() {
        for (int wires = 2; wires <= 6; wires++) {
            int top = 1 << (wires - 1);
            Due.is("20: a one on the wire 0 alone", Houses.of(wires).wrong(0), 1);
            Due.is("17: no row with a one on the wire 0 alone", Houses.with(wires, "01").outputs() & 2, 0);
            Due.is("17: a one on the wire 1 alone", Houses.with(wires, "01").outputs() >>> 2 & 1, 1);
            long out = Houses.with(wires, "0" + (wires - 1)).outputs();
            Due.is("17: a one on the last wire", out >>> top & 1, 1);
            Due.is("17: none on it, but one on the first", out >>> 1 & 1, 0);
        }
    }

    /** "Sorted, if no value is greater than that on the next wire": equal ones may be neighbours. */
    private static void sortedRows() {
        for (int wires = 2; wires <= 6; wires++) {
            long due = 0;
            for (int ones = 0; ones <= wires; ones++) {
                int row = ((1 << ones) - 1) << (wires - ones);
                due |= 1L << row;
            }
            Due.is("17: the sorted rows", Houses.made(wires, 1).outputs(), due);
            Due.is("17: how many", Long.bitCount(due), wires + 1);
            Comparatory house = Houses.of(wires);
            int next = 0;
            for (int place = 0; place < (1 << wires) - wires - 1; place++) {
                while ((due >>> next & 1) != 0) {
                    next++;
                }
                Due.is("20: the row " + place, house.wrong(place), next);
                next++;
            }
        }
    }

    /** "A network sorts, if each row comes out of it sorted": these leave one row of 8, or of 16. */
    private static void allButOneRow() {
        String[] ofThree = {"0201", "1201", "0112", "0212"};
        int[] wrong = {2, 1, 3, 5};
        for (int i = 0; i < 4; i++) {
            Comparatory house = Houses.with(3, ofThree[i]);
            Due.is("18: " + ofThree[i], house.sorts(), false);
            Due.is("20: the one", house.wrong(0), wrong[i]);
            Due.is("20: no other", house.wrong(1), -1);
            Due.is("19: four of six", house.sorted(), 4);
            Due.is("21: one is missing", house.finishes(1), 1);
            Due.is("24: off by one", house.off(), 1);
        }
        Comparatory four = Houses.with(4, "1312030201");
        Due.is("18: all but one of 16", four.sorts(), false);
        Due.is("20: the one", four.wrong(0), 4);
        Due.is("20: no other", four.wrong(1), -1);
        Due.is("19: a quarter of all rows", four.sorted(), 18);
        four.add(2, 3);
        Due.is("18: none is left", four.sorts(), true);
        Due.is("20: none is left", four.wrong(0), -1);
    }

    /** All networks of two comparators on three wires, and some of four, with every question. */
    private static void smallNetworks() {
        int[] pairs = {1, 2, 12, 10, 20, 21};
        for (int one : pairs) {
            for (int two : pairs) {
                String both = "" + one / 10 + one % 10 + two / 10 + two % 10;
                Alike.network(3, both);
                Alike.network(4, both + "3213");
                Alike.network(6, "4513" + both + "3524");
            }
        }
    }

    /** "The set of rows that come out, if each one goes in": the rows 0 and of ones alone always do. */
    private static void theSetOfRows() {
        for (int wires = 2; wires <= 6; wires++) {
            int last = (1 << wires) - 1;
            for (Comparatory house : new Comparatory[] {Houses.of(wires), Houses.full(wires), Houses.made(wires, 2)}) {
                Due.is("17: the row 0", house.outputs() & 1, 1);
                Due.is("17: the last row", house.outputs() >>> last & 1, 1);
                Due.is("17: no row above it", wires == 6 ? 0 : house.outputs() >>> (last + 1), 0);
            }
        }
        Due.is("17: all 64", Houses.of(6).outputs(), -1L);
        Due.is("17: all 4", Houses.of(2).outputs(), 15);
        Due.is("17: 3 of 4", Houses.with(2, "01").outputs(), 13);
    }

    /** From none to all of them. */
    private static void howManyComeOutSorted() {
        int[] all = {1, 1, 2, 6, 24, 120, 720};
        for (int wires = 2; wires <= 6; wires++) {
            Comparatory house = Houses.made(wires, 0);
            Due.is("19: all of " + wires, house.sorted(), all[wires]);
            house.add(1, 0);
            Due.is("19: none of " + wires, house.sorted(), 0);
            house.take();
            house.take();
            Due.is("19: not all of " + wires, house.sorted() < all[wires], true);
            Due.is("19: one of " + wires, Houses.of(wires).sorted(), 1);
        }
    }

    /** "The one with so many lower ones of these ahead of it": the place 0 and the last one. */
    private static void wrongRows() {
        for (int wires = 2; wires <= 6; wires++) {
            int unsorted = (1 << wires) - wires - 1;
            Comparatory house = Houses.of(wires);
            Due.is("20: the first", house.wrong(0), 1);
            Due.is("20: the last", house.wrong(unsorted - 1), (1 << wires) - 3);
            Due.is("20: behind it", house.wrong(unsorted), -1);
            Due.is("20: two behind it", house.wrong(unsorted + 1), -1);
            Due.is("20: at 63", house.wrong(63), -1);
            Due.is("20: at 64", house.wrong(64), -1);
            Due.is("20: far behind it", house.wrong(Integer.MAX_VALUE), -1);
        }
        Due.is("20: as it goes in, not as it comes out", Houses.with(2, "10").wrong(1), 2);
        Due.is("20: 58 of 64, the highest", Houses.with(6, "10").wrong(57), 62);
        Due.is("20: 58 of 64, no more", Houses.with(6, "10").wrong(58), -1);
    }

    private static void noWrongRow() {
        for (int wires = 2; wires <= 6; wires++) {
            for (int what = 0; what < 3; what++) {
                Comparatory house = Houses.made(wires, what);
                Due.is("20: none", house.wrong(0), -1);
                house.take();
                Due.is("20: one without the last comparator", house.wrong(0) > 0, true);
            }
        }
    }

    /** A network that sorts is finished by none. */
    private static void finishedByNone() {
        for (int wires = 2; wires <= 6; wires++) {
            Comparatory house = Houses.made(wires, 0);
            for (int most = 0; most <= 3; most++) {
                Due.is("21: none is needed, most " + most, house.finishes(most), 0);
            }
        }
        Due.is("21: none behind 24", new24().finishes(0), 0);
        Due.is("21: none behind 24, most 3", new24().finishes(3), 0);
    }

    private static Comparatory new24() {
        Comparatory house = Houses.made(6, 2);
        house.make(2);
        return house;
    }

    /** "Returns the least number": as many as most is enough. */
    private static void theLeastThatFinish() {
        Comparatory house = Houses.made(4, 2);
        for (int needed = 1; needed <= 3; needed++) {
            house.take();
            for (int most = 0; most <= 3; most++) {
                Due.is("21: " + needed + " needed, most " + most, house.finishes(most), most < needed ? -1 : needed);
            }
        }
        Due.is("21: any one of these would be too many", Houses.with(3, "011202" + "0112").finishes(1), 0);
        Due.is("21: by brick more than by the best", Houses.with(4, "0123" + "12").finishes(3), 3);
        Due.is("21: the best of all is not told by neighbours", Houses.with(4, "0123" + "0213").finishes(3), 1);
        Due.is("21: of 2 wires", Houses.of(2).finishes(1), 1);
        Due.is("21: of 2 wires, turned", Houses.with(2, "10").finishes(1), 1);
        Due.is("21: of 3 wires", Houses.of(3).finishes(3), 3);
    }

    /** "NONE if more than most are needed": 3 needed and 4 needed. */
    private static void moreThanMost() {
        Comparatory house = Houses.made(6, 2);
        for (int taken = 0; taken <= 4; taken++) {
            Due.is("21: without " + taken, house.finishes(3), taken <= 3 ? taken : -1);
            for (int most = 0; most < Math.min(4, taken); most++) {
                Due.is("21: without " + taken + ", most " + most, house.finishes(most), -1);
            }
            house.take();
        }
        Due.is("21: four wires need five", Houses.of(4).finishes(3), -1);
        Due.is("21: four are needed", Houses.with(4, "01").finishes(3), -1);
        Due.is("21: three are needed", Houses.with(4, "0123").finishes(3), 3);
        Due.is("21: three are needed, most 2", Houses.with(4, "0123").finishes(2), -1);
    }

    /** "Finished by straight comparators behind it." */
    private static void straightOnesAlone() {
        Due.is("21: a turned network needs as many as straight ones do", Houses.with(3, "102110").finishes(3), Slow.with(3, "102110").finishes(3));
        Due.is("21: two turned", Houses.with(4, "1032").finishes(3), Slow.with(4, "1032").finishes(3));
        Due.is("21: all turned", Houses.with(4, "201031203221").finishes(3), Slow.with(4, "201031203221").finishes(3));
        Due.is("21: any two wires", Houses.with(3, "0102").finishes(1), 1);
        Due.is("21: the outer ones", Houses.with(3, "1201").finishes(1), 1);
    }

    /** "Merges at some wire": its least is 1, its most is the last wire. */
    private static void mergesAtTheFirstAndTheLastWire() {
        for (int wires = 2; wires <= 6; wires++) {
            Comparatory down = Houses.of(wires);
            Comparatory up = Houses.of(wires);
            for (int wire = 0; wire + 1 < wires; wire++) {
                down.add(wire, wire + 1);
                up.add(wires - 2 - wire, wires - 1 - wire);
            }
            Due.is("22: the wire 0 is put in its place", down.merges(1), true);
            Due.is("22: the last wire is put in its place", up.merges(wires - 1), true);
            Due.is("22: nothing is put in its place", Houses.of(wires).merges(1), false);
            Due.is("22: nothing is put in its place", Houses.of(wires).merges(wires - 1), false);
            down.take();
            Due.is("22: one less, at 1", down.merges(1), false);
            up.take();
            Due.is("22: one less, at the last wire", up.merges(wires - 1), false);
        }
    }

    /** "Values on the wires ahead of that one sorted, and those from that one on as well." */
    private static void mergesOnlySuchRows() {
        String[] networks = {"0112", "1201", "02", "0201", "0212", "12"};
        for (String pairs : networks) {
            for (int wire = 1; wire < 3; wire++) {
                Due.is("22: " + pairs + " at " + wire, Houses.with(3, pairs).merges(wire), Slow.with(3, pairs).merges(wire));
            }
        }
        String ofSix = "0314251324122334";
        for (int wire = 1; wire < 6; wire++) {
            Due.is("22: of six at " + wire, Houses.with(6, ofSix).merges(wire), Slow.with(6, ofSix).merges(wire));
        }
        Due.is("22: two by two", Houses.with(4, "021312").merges(2), true);
        Due.is("22: two by two, without the last", Houses.with(4, "0213").merges(2), false);
    }

    /** "Chooses so many": 1 is the least, one less than it has wires the most. */
    private static void choosesOneAndAllButOne() {
        for (int wires = 2; wires <= 6; wires++) {
            Comparatory least = Houses.of(wires);
            Comparatory greatest = Houses.of(wires);
            for (int wire = 1; wire < wires; wire++) {
                least.add(0, wire);
                greatest.add(wires - 1 - wire, wires - 1);
            }
            for (int many = 1; many < wires; many++) {
                Due.is("23: the least one, " + many + " of " + wires, least.chooses(many), many == 1);
                Due.is("23: the greatest one, " + many + " of " + wires, greatest.chooses(many), many == wires - 1);
            }
            least.take();
            greatest.take();
            Due.is("23: one less", least.chooses(1), false);
            Due.is("23: one less", greatest.chooses(wires - 1), false);
        }
    }

    /** They "come out on the wires with lower numbers", in whatever order. */
    private static void choosesInAnyOrder() {
        Comparatory house = Houses.with(4, "0123" + "0312");
        Due.is("23: the lower two", house.chooses(2), true);
        Due.is("23: not in order", house.chooses(1), false);
        Due.is("18: it does not sort", house.sorts(), false);
        house.add(1, 0);
        Due.is("23: turned among themselves", house.chooses(2), true);
        house.add(1, 2);
        Due.is("23: nothing to exchange", house.chooses(2), true);
        house.add(2, 1);
        Due.is("23: turned across", house.chooses(2), false);
    }

    private static void offByNone() {
        for (int wires = 2; wires <= 6; wires++) {
            for (int what = 0; what < 3; what++) {
                Comparatory house = Houses.made(wires, what);
                Due.is("24: sorts", house.off(), 0);
                house.take();
                Due.is("24: off by one at least", house.off() >= 1, true);
            }
        }
        Due.is("24: off by one", Houses.with(3, "0112").off(), 1);
    }

    /** "The greatest difference between a value and the number of the wire on which it comes out." */
    private static void offByTheMost() {
        for (int wires = 2; wires <= 6; wires++) {
            Due.is("24: none there", Houses.of(wires).off(), wires - 1);
            Comparatory turned = Houses.made(wires, 0);
            turned.add(wires - 1, 0);
            Due.is("24: the least on the last wire", turned.off(), wires - 1);
            Due.is("24: the outer wires alone", Houses.with(wires, "0" + (wires - 1)).off(), wires == 2 ? 0 : wires - 2);
        }
        Due.is("24: the least one is off the most", Houses.with(4, "031323").off(), Slow.with(4, "031323").off());
        Due.is("24: the greatest one is off the most", Houses.with(4, "030201").off(), Slow.with(4, "030201").off());
        Due.is("24: one in the middle is", Houses.with(5, "0102030414243413").off(), Slow.with(5, "0102030414243413").off());
    }
}
