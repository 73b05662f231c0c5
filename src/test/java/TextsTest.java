/** Promises 12 to 15: what is typed, its fault, and what is built of it. */
public final class TextsTest {
    public static void main(String[] args) {
        promise12();
        promise12Refusals();
        promise13();
        promise14Signs();
        promise14Wires();
        promise15();
        promise15Refusals();
        textsComeBack();
        Due.end();
    }

    private static void promise12() {
        Comparatory house = Houses.of(6);
        Due.is("12: one", house.type('0', 1), 1);
        Due.is("12: eight", house.type(Houses.packed(":1 2:3/4"), 8), 9);
        Due.is("12: only the lowest n count", house.type(Houses.packed(":5xyz!!!"), 2), 11);
        Due.is("12: no fault", house.fault(), -1);
        Due.is("12: built in order", house.build(), 3);
        Due.is("12: built in order", Houses.pairs(house), "012345");
        for (char sign : "012345:/ ".toCharArray()) {
            Due.is("12: " + sign, new Comparatory().type(sign, 1), 1);
        }
        Comparatory full = Houses.of(2);
        for (int i = 1; i <= 5; i++) {
            Due.is("12: up to 40", full.type(Houses.packed("        "), 8), 8 * i);
        }
        Due.badState("12: the 41st", () -> full.type(' ', 1));
        Due.is("12: still 40", full.wipe(), 40);
        full.type(Houses.packed("////"), 4);
        for (int i = 0; i < 4; i++) {
            full.type(Houses.packed("////////"), 8);
        }
        Due.badState("12: 36 and 5", () -> full.type(Houses.packed("/////"), 5));
        Due.is("12: 36 and 4", full.type(Houses.packed("////"), 4), 40);
    }

    private static void promise12Refusals() {
        Comparatory house = Houses.of(6);
        for (int n : new int[] {Integer.MIN_VALUE, -1, 0, 9, Integer.MAX_VALUE}) {
            Due.illegal("12: n " + n, () -> house.type(Houses.packed("0:1 2:3 "), n));
        }
        for (int sign = 0; sign < 256; sign++) {
            if ("012345:/ ".indexOf(sign) < 0) {
                long alone = sign;
                Due.illegal("12: sign " + sign, () -> house.type(alone, 1));
                Due.illegal("12: sign " + sign, () -> house.type(Houses.packed("0000000") | alone << 56, 8));
            }
        }
        Due.illegal("12: between others", () -> house.type(Houses.packed("0:a:1"), 5));
        Due.is("12: nothing was typed", house.wipe(), 0);
        for (int i = 0; i < 5; i++) {
            house.type(Houses.packed("        "), 8);
        }
        Due.illegal("12: a wrong sign ahead of a full tape", () -> house.type('x', 1));
        Due.illegal("12: n ahead of a full tape", () -> house.type('0', 0));
    }

    private static void promise13() {
        Comparatory house = Houses.of(3);
        house.type(Houses.packed("0:1"), 3);
        Due.is("13: wipe", house.wipe(), 3);
        Due.is("13: empty", house.wipe(), 0);
        Due.is("13: typed anew", house.type('2', 1), 1);
        Due.is("13: fault of what is anew", house.fault(), 1);
    }

    private static void promise14Signs() {
        Comparatory house = Houses.of(6);
        Due.is("14: empty", Houses.faultOf(house, ""), 0);
        Due.is("14: 0", Houses.faultOf(house, "0"), 1);
        Due.is("14: 0:", Houses.faultOf(house, "0:"), 2);
        Due.is("14: 0:1", Houses.faultOf(house, "0:1"), -1);
        Due.is("14: 0:1 blank", Houses.faultOf(house, "0:1 "), 4);
        Due.is("14: 0:1/", Houses.faultOf(house, "0:1/"), 4);
        Due.is("14: two blanks", Houses.faultOf(house, "0:1  2:3"), 4);
        Due.is("14: two strokes", Houses.faultOf(house, "0:1//2:3"), 4);
        Due.is("14: blank and stroke", Houses.faultOf(house, "0:1 /2:3"), 4);
        Due.is("14: a blank first", Houses.faultOf(house, " 0:1"), 0);
        Due.is("14: a stroke first", Houses.faultOf(house, "/0:1"), 0);
        Due.is("14: a colon first", Houses.faultOf(house, ":"), 0);
        Due.is("14: no colon", Houses.faultOf(house, "012"), 1);
        Due.is("14: two colons", Houses.faultOf(house, "0::"), 2);
        Due.is("14: no separator", Houses.faultOf(house, "0:12:3"), 3);
        Due.is("14: a colon for a separator", Houses.faultOf(house, "0:1:2"), 3);
        Due.is("14: only the first fault", Houses.faultOf(house, "0:1 23:4 /"), 5);
        Due.is("14: ten pairs", Houses.faultOf(house, "0:1 2:3 4:5/0:1 2:3 4:5/0:1 2:3 4:5/0:1"), -1);
        Due.is("14: a full tape is too short", Houses.faultOf(house, "0:1 2:3 4:5/0:1 2:3 4:5/0:1 2:3 4:5/0:1 "), 40);
    }

    private static void promise14Wires() {
        Comparatory house = Houses.of(4);
        Due.is("14: no wire first", Houses.faultOf(house, "4:1"), 0);
        Due.is("14: no wire behind", Houses.faultOf(house, "0:4"), 2);
        Due.is("14: like wires", Houses.faultOf(house, "2:2"), 2);
        Due.is("14: twice, first", Houses.faultOf(house, "0:1 1:2"), 4);
        Due.is("14: twice, other", Houses.faultOf(house, "0:1 2:0"), 6);
        Due.is("14: a stroke between", Houses.faultOf(house, "0:1/1:2"), -1);
        Due.is("14: a stroke between, the same", Houses.faultOf(house, "0:1/0:1/1:0"), -1);
        Due.is("14: only behind the last stroke", Houses.faultOf(house, "0:1 2:3/0:2 3:1/0:1 1:3"), 20);
        Due.is("14: no wires left for a pair", Houses.faultOf(house, "0:1 2:3 "), 8);
        Due.is("14: and none comes", Houses.faultOf(house, "0:1 2:3 0"), 8);
        house.network(3);
        Due.is("14: none left for the other wire", Houses.faultOf(house, "0:1 2"), 5);
        Due.is("14: none left for the other wire", Houses.faultOf(house, "0:1 2:"), 6);
        Due.is("14: and none comes", Houses.faultOf(house, "0:1 2:1"), 6);
        Houses.typeAnew(house, "0:5");
        Due.is("14: by the wires there are", house.fault(), 2);
        house.network(6);
        Due.is("14: by the wires there are now", house.fault(), -1);
        house.network(2);
        Due.is("14: and by fewer", house.fault(), 2);
    }

    private static void promise15() {
        Comparatory house = Houses.with(4, "01");
        Houses.typeAnew(house, "3:2 1:0/0:3");
        Due.is("15: build", house.build(), 3);
        Due.is("15: in the order of the text", Houses.pairs(house), "01321003");
        Due.is("15: the tape is empty", house.wipe(), 0);
        Houses.typeAnew(house, "2:3 0:1");
        Due.is("15: again", house.build(), 2);
        Due.is("15: in the order of the text", Houses.pairs(house), "013210032301");
    }

    private static void promise15Refusals() {
        Comparatory house = Houses.of(4);
        Due.illegal("15: empty", house::build);
        for (String text : new String[] {"0", "0:", "0:1 ", "0:1/", "0:4", "0:0", "0:1 1:2", "x".substring(1)}) {
            Houses.typeAnew(house, text);
            Due.illegal("15: " + text, house::build);
            Due.is("15: the tape stays", house.wipe(), text.length());
        }
        Comparatory full = Houses.full(4);
        Houses.typeAnew(full, "0:1 2:3");
        Due.badState("15: 26", full::build);
        full.take();
        Due.badState("15: 25", full::build);
        Due.is("15: nothing was built", full.told(1), 23);
        full.type(' ', 1);
        Due.illegal("15: no text, ahead of too many", full::build);
        Houses.typeAnew(full, "0:1 2:3");
        full.take();
        Due.is("15: just 24", full.build(), 2);
        Due.is("15: just 24", full.told(1), 24);
    }

    /** A text of a network builds a network of the same text. */
    private static void textsComeBack() {
        Comparatory house = Houses.with(6, "5401234501");
        String text = Houses.text(house);
        Comparatory other = Houses.of(6);
        Houses.typeAnew(other, text);
        Due.is("11, 15: built of its text", other.build(), 5);
        Due.is("11, 15: the same text", Houses.text(other), text);
    }
}
