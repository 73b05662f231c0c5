/** The sentences of "Questions" at their edges: promises 39 to 41. */
public final class QuestionEdgesTest {
    private static final int[] ALL = {1, 1, 2, 6, 24, 120, 720};

    public static void main(String[] args) {
        asManyByBoth();
        asManyByBothLater();
        oneMoreByOne();
        toldAlready();
        followsFromWhatWasTold();
        leftFromAllToOne();
        neverNone();
        neededAtFirst();
        neededOfNone();
        neededToTheLast();
        forgottenByNetwork();
        keptByAllOthers();
        manyQuestions();
        againstSlow();
        Due.end();
    }

    /** "If there are as many by both, it tells so of the wire with the lower number." */
    private static void asManyByBoth() {
        for (int wires = 2; wires <= 6; wires++) {
            for (int low = 0; low < wires; low++) {
                for (int high = low + 1; high < wires; high++) {
                    Comparatory house = Houses.of(wires);
                    Due.is("39: the lower one first", house.ask(low, high), true);
                    Due.is("40: half of them", house.left(), ALL[wires] / 2);
                    Comparatory other = Houses.of(wires);
                    Due.is("39: the lower one as the other one", other.ask(high, low), false);
                    Due.is("40: half of them", other.left(), ALL[wires] / 2);
                    Due.is("39: the same was told", other.ask(low, high), true);
                }
            }
        }
    }

    private static void asManyByBothLater() {
        Comparatory house = Houses.of(4);
        house.ask(0, 1);
        Due.is("39: of two other wires", house.ask(3, 2), false);
        Due.is("40: a quarter", house.left(), 6);
        Due.is("39: of the two lesser ones", house.ask(2, 0), false);
        Due.is("40: an eighth", house.left(), 3);
        Due.is("39: of the rest there are more by one", house.ask(3, 1), bySlow(4, "01", "32", "20", "31"));
    }

    private static boolean bySlow(int wires, String... asked) {
        Slow slow = new Slow();
        slow.network(wires);
        boolean told = false;
        for (String pair : asked) {
            told = slow.ask(pair.charAt(0) - '0', pair.charAt(1) - '0');
        }
        return told;
    }

    /** "As many as can be are left": one row more is enough, whichever wire has the lower number. */
    private static void oneMoreByOne() {
        Comparatory three = Houses.of(3);
        three.ask(0, 1);
        Due.is("39: two of three rows", three.ask(1, 2), false);
        Due.is("40: two left", three.left(), 2);
        Comparatory other = Houses.of(3);
        other.ask(0, 1);
        Due.is("39: the same, asked the other way round", other.ask(2, 1), true);
        Due.is("40: two left", other.left(), 2);
        Comparatory lesser = Houses.of(3);
        lesser.ask(1, 2);
        Due.is("39: two of three rows, the higher number", lesser.ask(0, 1), false);
        Due.is("40: two left", lesser.left(), 2);
        Comparatory six = Houses.of(6);
        six.ask(4, 5);
        Due.is("39: the lesser one is lesser again", six.ask(0, 4), false);
        Due.is("40: two of three", six.left(), 240);
    }

    /** A question asked again has the same answer, and leaves as many rows. */
    private static void toldAlready() {
        for (int wires = 2; wires <= 6; wires++) {
            Comparatory house = Houses.of(wires);
            house.ask(wires - 1, 0);
            int left = house.left();
            Due.is("39: again", house.ask(wires - 1, 0), false);
            Due.is("39: the other way round", house.ask(0, wires - 1), true);
            Due.is("40: as many", house.left(), left);
        }
    }

    /** What follows is told so, though the wire with the lower number is the greater one. */
    private static void followsFromWhatWasTold() {
        Comparatory house = Houses.of(3);
        Due.is("39: 1 below 2", house.ask(1, 2), true);
        Due.is("39: not 0 below 1", house.ask(0, 1), false);
        Due.is("39: 0 below 2, as many by both", house.ask(0, 2), true);
        Due.is("40: one left", house.left(), 1);
        Due.is("39: 1 below 0, told", house.ask(1, 0), true);
        Comparatory chain = Houses.of(4);
        chain.ask(0, 1);
        chain.ask(0, 2);
        chain.ask(0, 3);
        chain.ask(1, 2);
        chain.ask(2, 3);
        Due.is("39: it follows", chain.ask(3, 0), false);
        Due.is("40: by Slow", chain.left(), slowLeft());
    }

    private static int slowLeft() {
        Slow slow = new Slow();
        slow.network(4);
        slow.ask(0, 1);
        slow.ask(0, 2);
        slow.ask(0, 3);
        slow.ask(1, 2);
        slow.ask(2, 3);
        slow.ask(3, 0);
        return slow.left();
    }

    private static void leftFromAllToOne() {
        for (int wires = 2; wires <= 6; wires++) {
            Comparatory house = Houses.of(wires);
            Due.is("40: all", house.left(), ALL[wires]);
            int before = ALL[wires];
            for (int one = 0; one < wires; one++) {
                for (int two = one + 1; two < wires; two++) {
                    house.ask(one, two);
                    Due.is("40: half of them at least", 2 * house.left() >= before && house.left() <= before, true);
                    before = house.left();
                }
            }
            Due.is("40: one", house.left(), 1);
        }
    }

    /** "Of the rows that agree with all that it told": there is always one. */
    private static void neverNone() {
        Comparatory house = Houses.of(2);
        for (int i = 0; i < 10; i++) {
            Due.is("39: as told", house.ask(i % 2, (i + 1) % 2), i % 2 == 0);
            Due.is("40: one", house.left(), 1);
            Due.is("41: none needed", house.needed(), 0);
        }
    }

    /** "NONE for more than 4 wires": of 4 it tells them, of 5 it does not. */
    private static void neededAtFirst() {
        int[] due = {0, 0, 1, 3, 5, -1, -1};
        for (int wires = 2; wires <= 6; wires++) {
            Due.is("41: at first, of " + wires, Houses.of(wires).needed(), due[wires]);
        }
        for (int wires = 5; wires <= 6; wires++) {
            Comparatory house = Houses.of(wires);
            for (int one = 0; one < wires; one++) {
                for (int two = one + 1; two < wires; two++) {
                    house.ask(one, two);
                    Due.is("41: of " + wires + " none is told", house.needed(), -1);
                }
            }
            Due.is("40: though only one is left", house.left(), 1);
            house.network(4);
            Due.is("41: of 4 it is told again", house.needed(), 5);
        }
    }

    /** With one row left no question is needed, with two of them one is. */
    private static void neededOfNone() {
        for (int wires = 2; wires <= 4; wires++) {
            Comparatory house = Houses.of(wires);
            for (int one = 0; one < wires; one++) {
                for (int two = one + 1; two < wires; two++) {
                    house.ask(one, two);
                    int left = house.left();
                    int needed = house.needed();
                    Due.is("41: none for one row alone", needed == 0, left == 1);
                    Due.is("41: one for two rows alone", needed == 1, left == 2);
                    Due.is("41: enough for all that are left", left <= 1 << Math.max(0, needed), true);
                }
            }
            Due.is("41: none at last", house.needed(), 0);
        }
    }

    private static void neededToTheLast() {
        Comparatory four = Houses.of(4);
        int[][] asked = {{0, 1}, {2, 3}, {0, 2}, {1, 2}, {1, 3}, {2, 3}};
        Slow slow = new Slow();
        slow.network(4);
        for (int[] pair : asked) {
            Due.is("41: by Slow", four.needed(), slow.needed());
            Due.is("39: by Slow", four.ask(pair[0], pair[1]), slow.ask(pair[0], pair[1]));
            Due.is("40: by Slow", four.left(), slow.left());
        }
        Due.is("41: by Slow", four.needed(), slow.needed());
        Comparatory three = Houses.of(3);
        three.ask(2, 1);
        Due.is("41: two more", three.needed(), 2);
        three.ask(0, 2);
        Due.is("41: one more", three.needed(), 1);
        three.ask(0, 1);
        Due.is("41: none", three.needed(), 0);
    }

    /** "When a network is begun, by network(), all is forgotten": of as many wires, too. */
    private static void forgottenByNetwork() {
        for (int wires = 2; wires <= 6; wires++) {
            Comparatory house = Houses.of(wires);
            for (int wire = 1; wire < wires; wire++) {
                house.ask(wire - 1, wire);
            }
            house.network(wires);
            Due.is("40: all again", house.left(), ALL[wires]);
            Due.is("41: all again", house.needed(), Houses.of(wires).needed());
            Due.is("39: as at first", house.ask(wires - 1, 0), false);
        }
    }

    /** Nothing else makes it forget, not even what begins or changes comparators. */
    private static void keptByAllOthers() {
        Comparatory house = Houses.of(4);
        house.ask(0, 1);
        house.ask(0, 2);
        int left = house.left();
        house.add(3, 0);
        Due.is("40: behind add", house.left(), left);
        house.make(2);
        Due.is("40: behind make", house.left(), left);
        house.mirror();
        Due.is("40: behind mirror", house.left(), left);
        house.untangle();
        Due.is("40: behind untangle", house.left(), left);
        house.prune();
        Due.is("40: behind prune", house.left(), left);
        house.take();
        Due.is("40: behind take", house.left(), left);
        Houses.typeAnew(house, "0:1");
        house.build();
        Due.is("40: behind build", house.left(), left);
        house.token(2);
        Due.is("40: behind token", house.left(), left);
        Due.illegal("2: refused", () -> house.network(1));
        Due.illegal("2: refused", () -> house.network(7));
        Due.is("40: behind a refused network", house.left(), left);
        Due.noSuch("39: refused", () -> house.ask(4, 0));
        Due.illegal("39: refused", () -> house.ask(3, 3));
        Due.is("40: behind a refused question", house.left(), left);
    }

    /** There is no limit of questions but that of all calls. */
    private static void manyQuestions() {
        Comparatory house = Houses.of(6);
        for (int i = 0; i < 250; i++) {
            int first = i * 7 % 6;
            int other = (first + 1 + i % 5) % 6;
            boolean told = house.ask(first, other);
            Due.is("39: the number " + i + ", the other way round", house.ask(other, first), !told);
        }
        Due.is("40: one is left", house.left(), 1);
    }

    /** Each three questions of three wires, each two of four, and longer rows of them. */
    private static void againstSlow() {
        String ofThree = "011002201221";
        String ofFour = "011002200330122113312332";
        for (int i = 0; i < 6 * 6 * 6; i++) {
            ask(3, pairOf(ofThree, i) + pairOf(ofThree, i / 6) + pairOf(ofThree, i / 36));
        }
        for (int i = 0; i < 12 * 12; i++) {
            ask(4, pairOf(ofFour, i) + pairOf(ofFour, i / 12));
            ask(4, pairOf(ofFour, i) + pairOf(ofFour, i / 12) + pairOf(ofFour, 5 * i + 3) + pairOf(ofFour, 7 * i + 1));
        }
        for (int wires = 5; wires <= 6; wires++) {
            for (int from = 0; from < wires; from++) {
                StringBuilder pairs = new StringBuilder();
                for (int i = 0; i < 3 * wires; i++) {
                    int first = (from + i * i) % wires;
                    pairs.append(first).append((first + 1 + i % (wires - 1)) % wires);
                }
                ask(wires, pairs.toString());
            }
        }
    }

    private static String pairOf(String pairs, int number) {
        int from = 2 * number % pairs.length();
        return pairs.substring(from, from + 2);
    }

    private static void ask(int wires, String pairs) {
        Comparatory house = Houses.of(wires);
        Slow slow = new Slow();
        slow.network(wires);
        for (int i = 0; i < pairs.length(); i += 2) {
            int first = pairs.charAt(i) - '0';
            int other = pairs.charAt(i + 1) - '0';
            String name = " " + pairs.substring(0, i + 2) + " on " + wires;
            Due.is("39:" + name, house.ask(first, other), slow.ask(first, other));
            Due.is("40:" + name, house.left(), slow.left());
            Due.is("41:" + name, house.needed(), slow.needed());
        }
    }
}
