/** The sentences of "Texts" at their edges: promises 12 to 15. */
public final class TextEdgesTest {
    private static final String SIGNS = "012345:/ ";

    public static void main(String[] args) {
        shortTapes();
        theLastSignThatFits();
        digitsAreWires();
        onePairAtLeast();
        betweenPairs();
        noWireTwice();
        noWireTwiceBetweenStrokes();
        wiresLeftDoNotMatter();
        onlyTooShort();
        theFirstFaultCounts();
        thePlaceOfTheFault();
        faultsByTheWiresThereAre();
        typedInParts();
        wiped();
        builtBehind();
        builtOnce();
        Due.end();
    }

    private static void fault(int wires, String text, int due) {
        Due.is("14: fault of \"" + text + "\" on " + wires, Houses.faultOf(Houses.of(wires), text), due);
    }

    /** Every tape of up to four characters, on each number of wires. */
    private static void shortTapes() {
        for (int wires = 2; wires <= 6; wires++) {
            Slow slow = new Slow();
            slow.network(wires);
            for (int number = 0; number < 10000; number++) {
                String tape = tape(number);
                if (tape.length() > 0) {
                    slow.tape = tape;
                    Comparatory house = Houses.of(wires);
                    house.type(Houses.packed(tape), tape.length());
                    Due.is("14: fault of \"" + tape + "\" on " + wires, house.fault(), slow.fault());
                }
            }
        }
    }

    /** The digits of a number as characters, up to the first nought. */
    private static String tape(int number) {
        StringBuilder tape = new StringBuilder();
        for (int rest = number; rest % 10 != 0; rest /= 10) {
            tape.append(SIGNS.charAt(rest % 10 - 1));
        }
        return tape.toString();
    }

    /** "0 to 5, :, / and blanks": the characters next to these are none of them. */
    private static void theLastSignThatFits() {
        for (char sign : SIGNS.toCharArray()) {
            Due.is("12: " + sign, new Comparatory().type(sign, 1), 1);
            Due.is("12: eight of " + sign, new Comparatory().type(sign * 0x0101010101010101L, 8), 8);
        }
        for (char sign : new char[] {31, 33, '.', '6', '9', ';', 0, 9, 10, 127, 128, 160, 176, 255}) {
            Due.illegal("12: number " + (int) sign, () -> new Comparatory().type(sign, 1));
            Due.illegal("12: number " + (int) sign + " eight times", () -> new Comparatory().type(sign * 0x0101010101010101L, 8));
        }
    }

    /** "Both have to be wires": the last wire, and the next digit. */
    private static void digitsAreWires() {
        for (int wires = 2; wires <= 6; wires++) {
            for (int digit = 0; digit <= 5; digit++) {
                boolean isWire = digit < wires;
                fault(wires, "" + digit, isWire ? 1 : 0);
                String other = digit == 0 ? "1" : "0";
                fault(wires, other + ":" + digit, isWire ? -1 : 2);
                fault(wires, digit + ":" + other, isWire ? -1 : 0);
                fault(wires, "0:1/" + digit + ":" + other, isWire ? -1 : 4);
                fault(wires, "0:1/" + other + ":" + digit, isWire ? -1 : 6);
                fault(wires, digit + ":" + digit, isWire ? 2 : 0);
            }
        }
    }

    /** "A text is one pair or more." */
    private static void onePairAtLeast() {
        fault(2, "", 0);
        fault(2, "0:1", -1);
        fault(2, "1:0", -1);
        fault(2, "0:1/1:0", -1);
        fault(6, "0:1 2:3 4:5", -1);
        fault(6, "0:1 2:3 4:5/5:0 4:1 3:2/0:2 1:3/4:0 2:5", -1);
        fault(2, " ", 0);
        fault(2, "/", 0);
        fault(2, ":", 0);
    }

    /** "With a blank or a stroke between each two of them": one, and neither ahead nor behind. */
    private static void betweenPairs() {
        fault(6, "0:1 2:3", -1);
        fault(6, "0:1/2:3", -1);
        fault(6, "0:12:3", 3);
        fault(6, "0:1:2:3", 3);
        fault(6, "0:1  2:3", 4);
        fault(6, "0:1// 2:3", 4);
        fault(6, "0:1 /2:3", 4);
        fault(6, "0:1/ 2:3", 4);
        fault(6, " 0:1", 0);
        fault(6, "/0:1", 0);
        fault(6, "0:1 ", 4);
        fault(6, "0:1/", 4);
        fault(6, "0 :1", 1);
        fault(6, "0: 1", 2);
        fault(6, "0/1", 1);
        fault(6, "0:/", 2);
    }

    /** Where there is no stroke, no wire comes twice in the whole text. */
    private static void noWireTwice() {
        fault(4, "0:1 2:3", -1);
        fault(4, "0:1 1:2", 4);
        fault(4, "0:1 0:2", 4);
        fault(4, "0:1 2:0", 6);
        fault(4, "0:1 2:1", 6);
        fault(4, "0:1 2:2", 6);
        fault(6, "0:1 2:3 4:5", -1);
        fault(6, "0:1 2:3 4:0", 10);
        fault(6, "0:1 2:3 1:5", 8);
    }

    /** "Between two strokes, ahead of the first one and behind the last one." */
    private static void noWireTwiceBetweenStrokes() {
        fault(4, "0:1/1:2", -1);
        fault(4, "0:1/0:1", -1);
        fault(4, "0:1/2:3 0:1", -1);
        fault(4, "0:1 1:2/0:1", 4);
        fault(4, "0:1/1:2 2:3/0:1", 8);
        fault(4, "0:1/1:2 3:1/0:1", 10);
        fault(4, "0:1/1:2/2:3 2:0", 12);
        fault(4, "0:1/1:2/2:3 0:3", 14);
        fault(4, "0:1 2:3/0:1 2:3/0:1 2:3", -1);
        fault(2, "0:1/1:0/0:1/1:0/0:1/1:0/0:1/1:0/0:1/1:0", -1);
        fault(2, "0:1/1:0/0:1/1:0/0:1/1:0/0:1/1:0/0:1/1:1", 38);
    }

    /** "It does not matter whether wires are left for what is to come." */
    private static void wiresLeftDoNotMatter() {
        fault(2, "0:1 ", 4);
        fault(2, "0:1 0", 4);
        fault(2, "0:1/", 4);
        fault(2, "0:1/0", 5);
        fault(3, "0:1 ", 4);
        fault(3, "0:1 2", 5);
        fault(3, "0:1 2:", 6);
        fault(3, "0:1 2:0", 6);
        fault(3, "0:1 2:2", 6);
        fault(4, "0:1 2:3 ", 8);
        fault(4, "0:1 2:3 1", 8);
        fault(5, "0:1 2:3 4", 9);
        fault(5, "0:1 2:3 4:", 10);
        fault(6, "0:1 2:3 4:5 ", 12);
        fault(6, "0:1 2:3 4:5 0", 12);
    }

    /** "Or its length, if it is only too short." */
    private static void onlyTooShort() {
        String text = "5:4 0:1/2:3 4:0/1:5 3:2/0:5/4:1 2:0 3:5";
        for (int length = 0; length <= text.length(); length++) {
            fault(6, text.substring(0, length), length % 4 == 3 ? -1 : length);
        }
    }

    /** "The first character with which it cannot be the beginning of a text": later ones do not count. */
    private static void theFirstFaultCounts() {
        fault(6, "::", 0);
        fault(6, "0::0", 2);
        fault(6, "0:0:", 2);
        fault(6, "0:1 1:1 1:1", 4);
        fault(6, "0:1 2/3 4:5", 5);
        fault(2, "0:5 /", 2);
        fault(6, "00:1", 1);
        fault(6, "0:1                                     ", 4);
    }

    private static void thePlaceOfTheFault() {
        String text = "5:4 0:1/2:3 4:0/1:5 3:2/0:5/4:1 2:0 3:5";
        for (int place = 0; place < text.length(); place++) {
            for (char sign : SIGNS.toCharArray()) {
                for (int wires = 2; wires <= 6; wires += 2) {
                    StringBuilder tape = new StringBuilder(text);
                    tape.setCharAt(place, sign);
                    Slow slow = new Slow();
                    slow.network(wires);
                    slow.tape = tape.toString();
                    fault(wires, slow.tape, slow.fault());
                }
            }
        }
    }

    /** "Returns the fault of the tape, for the wires of the network": of those that there are now. */
    private static void faultsByTheWiresThereAre() {
        Comparatory house = Houses.of(6);
        Houses.typeAnew(house, "0:1/1:2/2:3/3:4/4:5");
        int[] due = {0, 0, 6, 10, 14, 18, -1};
        for (int wires = 6; wires >= 2; wires--) {
            house.network(wires);
            Due.is("14: on " + wires, house.fault(), due[wires]);
        }
        Due.illegal("15: no text of 2 wires", house::build);
        house.network(5);
        Due.illegal("15: no text of 5 wires", house::build);
        house.network(6);
        Due.is("15: a text of 6 wires", house.build(), 5);
    }

    /** A text may be typed in any parts. */
    private static void typedInParts() {
        String text = "0:1 2:3 4:5/5:0 4:1 3:2/0:2 1:3/4:0 2:5";
        for (int part = 1; part <= 8; part++) {
            Comparatory house = Houses.of(6);
            int typed = 0;
            for (int from = 0; from < text.length(); from += part) {
                String piece = text.substring(from, Math.min(text.length(), from + part));
                typed += piece.length();
                Due.is("12: so many by then", house.type(Houses.packed(piece), piece.length()), typed);
            }
            Due.is("14: no fault in parts of " + part, house.fault(), -1);
            Due.is("15: ten pairs in parts of " + part, house.build(), 10);
            Due.is("15: in order", Houses.pairs(house), text.replaceAll("[ :/]", ""));
        }
    }

    /** "Empties the tape; returns how many characters it had": from none to 40. */
    private static void wiped() {
        Comparatory house = Houses.of(2);
        for (int many = 0; many <= 40; many++) {
            Houses.typeAnew(house, "/".repeat(many));
            Due.is("13: so many", house.wipe(), many);
            Due.is("13: none then", house.wipe(), 0);
        }
        Due.is("12: the first one again", house.type('0', 1), 1);
        Due.is("14: what was there is gone", house.fault(), 1);
    }

    /** "Behind all others, in the order of the text": crooked ones and those of one layer as they are. */
    private static void builtBehind() {
        Comparatory house = Houses.with(6, "1001");
        Houses.typeAnew(house, "5:4 3:2 1:0/0:5");
        Due.is("15: how many in the text", house.build(), 4);
        Due.is("15: in its order", Houses.pairs(house), "1001" + "54321005");
        Houses.typeAnew(house, "0:1");
        Due.is("15: one", house.build(), 1);
        Due.is("15: behind all others", Houses.pairs(house), "1001" + "54321005" + "01");
        Due.is("9: comparators", house.told(1), 7);
    }

    /** "The tape is empty then": what was built is not there to be built again. */
    private static void builtOnce() {
        Comparatory house = Houses.of(4);
        Houses.typeAnew(house, "0:1/2:3");
        Due.is("15: two", house.build(), 2);
        Due.illegal("15: not twice", house::build);
        Due.is("14: empty", house.fault(), 0);
        Due.is("12: the first character again", house.type('3', 1), 1);
        Due.is("13: one", house.wipe(), 1);
        Due.is("9: two comparators", house.told(1), 2);
    }
}
