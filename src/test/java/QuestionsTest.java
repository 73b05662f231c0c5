/** Promises 39 to 41: what the adversary answers, and how long it holds out. */
public final class QuestionsTest {
    public static void main(String[] args) {
        promise39();
        promise39Most();
        promise39Refusals();
        promise40();
        promise41();
        promise41Behind();
        whatIsForgotten();
        Due.end();
    }

    private static void promise39() {
        Comparatory two = Houses.of(2);
        Due.is("39: as many by both", two.ask(0, 1), true);
        Due.is("39: the same again", two.ask(0, 1), true);
        Due.is("39: the other way round", two.ask(1, 0), false);
        Due.is("39: as many by both, asked the other way round", Houses.of(2).ask(1, 0), false);
        Due.is("39: as many by both", Houses.of(6).ask(5, 3), false);
        Due.is("39: as many by both", Houses.of(6).ask(3, 5), true);
    }

    private static void promise39Most() {
        Comparatory three = Houses.of(3);
        Due.is("39: first", three.ask(0, 1), true);
        Due.is("39: more by the other", three.ask(1, 2), false);
        Due.is("40: two left", three.left(), 2);
        Due.is("39: as many by both again", three.ask(2, 0), false);
        Due.is("40: one left", three.left(), 1);
        Due.is("39: told already", three.ask(1, 2), false);
        Due.is("39: follows", three.ask(0, 1), true);
        Due.is("40: one is always left", three.left(), 1);
        Comparatory more = Houses.of(3);
        more.ask(0, 2);
        Due.is("39: more by the first", more.ask(0, 1), true);
        Comparatory six = Houses.of(6);
        six.ask(4, 5);
        Due.is("39: the lesser one more likely", six.ask(4, 0), true);
        Due.is("39: the greater one more likely", six.ask(5, 1), false);
    }

    private static void promise39Refusals() {
        Comparatory house = Houses.of(3);
        Due.noSuch("39: no wire", () -> house.ask(0, 3));
        Due.noSuch("39: no wire", () -> house.ask(3, 0));
        Due.noSuch("39: below", () -> house.ask(-1, 1));
        Due.noSuch("39: below", () -> house.ask(1, -1));
        Due.noSuch("39: no wire twice", () -> house.ask(3, 3));
        Due.noSuch("39: extreme", () -> house.ask(Integer.MAX_VALUE, Integer.MIN_VALUE));
        Due.illegal("39: the same", () -> house.ask(1, 1));
        Due.is("39: nothing was told", house.left(), 6);
    }

    private static void promise40() {
        int all = 1;
        for (int wires = 2; wires <= 6; wires++) {
            all *= wires;
            Due.is("40: all", Houses.of(wires).left(), all);
            Comparatory house = Houses.of(wires);
            house.ask(0, wires - 1);
            Due.is("40: half of them", house.left(), all / 2);
        }
        Comparatory six = Houses.of(6);
        for (int wire = 0; wire < 5; wire++) {
            six.ask(wire, 5);
        }
        Due.is("40: one wire with all others", six.left(), 120);
        for (int one = 0; one < 6; one++) {
            for (int two = 0; two < one; two++) {
                six.ask(one, two);
            }
        }
        Due.is("40: all pairs asked", six.left(), 1);
    }

    private static void promise41() {
        int[] due = {0, 0, 1, 3, 5, -1, -1};
        for (int wires = 2; wires <= 6; wires++) {
            Due.is("41: at first", Houses.of(wires).needed(), due[wires]);
        }
        Comparatory five = Houses.of(5);
        five.ask(0, 1);
        Due.is("41: more than 4 wires", five.needed(), -1);
        Comparatory two = Houses.of(2);
        two.ask(0, 1);
        Due.is("41: none", two.needed(), 0);
        two.ask(0, 1);
        Due.is("41: none", two.needed(), 0);
    }

    private static void promise41Behind() {
        Comparatory three = Houses.of(3);
        int[] due = {2, 1, 0};
        int[][] asked = {{0, 1}, {1, 2}, {0, 2}};
        for (int i = 0; i < 3; i++) {
            three.ask(asked[i][0], asked[i][1]);
            Due.is("41: behind " + (i + 1), three.needed(), due[i]);
        }
        Comparatory four = Houses.of(4);
        int[][] good = {{0, 1}, {2, 3}, {0, 2}};
        int[] left = {12, 6, 3};
        int[] needed = {4, 3, 2};
        for (int i = 0; i < 3; i++) {
            four.ask(good[i][0], good[i][1]);
            Due.is("40: of four, behind " + (i + 1), four.left(), left[i]);
            Due.is("41: of four, behind " + (i + 1), four.needed(), needed[i]);
        }
        four.ask(0, 1);
        Due.is("41: asked in vain", four.needed(), 2);
        Comparatory star = Houses.of(4);
        star.ask(0, 1);
        star.ask(0, 2);
        Due.is("40: two above one", star.left(), 8);
        Due.is("41: two above one", star.needed(), 3);
        star.ask(2, 1);
        Due.is("40: three in order", star.left(), 4);
        Due.is("41: three in order", star.needed(), 2);
    }

    private static void whatIsForgotten() {
        Comparatory house = Houses.of(3);
        house.ask(0, 1);
        house.add(0, 1);
        house.make(0);
        house.mirror();
        house.untangle();
        house.prune();
        house.take();
        house.token(0);
        house.type('0', 1);
        house.wipe();
        Due.is("39: nothing is forgotten by these", house.left(), 3);
        Due.illegal("2: refused", () -> house.network(7));
        Due.is("39: nor by a refused call", house.left(), 3);
        house.network(3);
        Due.is("39: all is forgotten", house.left(), 6);
        Due.is("41: all is forgotten", house.needed(), 3);
    }
}
