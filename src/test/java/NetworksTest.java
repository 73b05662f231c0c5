/** Promises 1 to 11: networks begun, told, made, mirrored, untangled, pruned and drawn. */
public final class NetworksTest {
    public static void main(String[] args) {
        promise1();
        promise2();
        promise3();
        promise4();
        promise5();
        promise5Edges();
        promise6();
        promise7();
        promise8();
        promise9();
        promise10();
        promise10Layers();
        promise11();
        tokensAreForgotten();
        refusedCallsChangeNothing();
        Due.end();
    }

    private static void promise1() {
        Comparatory house = new Comparatory();
        Due.is("1: wires", house.told(0), 2);
        Due.is("1: comparators", house.told(1), 0);
        Due.is("1: layers", house.told(2), 0);
        Due.is("1: dead", house.told(3), 0);
        Due.is("1: not straight", house.told(4), 0);
        Due.is("1: text", house.told(5), 0);
        Due.is("1: tape", house.wipe(), 0);
        Due.is("1: rows left", house.left(), 2);
        Due.is("1: tokens", house.came(0) + house.came(1), 0);
        Due.is("1: outputs", house.outputs(), 0b1111);
        Comparatory other = new Comparatory();
        other.add(0, 1);
        Due.is("1: houses share nothing", house.told(1), 0);
    }

    private static void promise2() {
        Comparatory house = new Comparatory();
        for (int wires = 2; wires <= 6; wires++) {
            Due.is("2: network " + wires, house.network(wires), wires == 2 ? 0 : wires - 2);
            Due.is("2: wires", house.told(0), wires);
            Due.is("2: comparators", house.told(1), 0);
            for (int i = 0; i < wires - 1; i++) {
                house.add(i, i + 1);
            }
        }
        Due.is("2: same wires again", house.network(6), 5);
        Due.is("2: none left", house.network(6), 0);
        for (int wires : new int[] {Integer.MIN_VALUE, -1, 0, 1, 7, Integer.MAX_VALUE}) {
            Due.illegal("2: network " + wires, () -> house.network(wires));
        }
        Due.is("2: as before", house.told(0), 6);
        house.type(Houses.packed("0:1"), 3);
        house.network(3);
        Due.is("2: the tape stays", house.wipe(), 3);
    }

    private static void promise3() {
        Comparatory house = Houses.of(4);
        Due.is("3: add", house.add(0, 3), 0);
        Due.is("3: add", house.add(3, 0), 1);
        Due.is("3: add", house.add(2, 1), 2);
        Due.is("3: pairs", Houses.pairs(house), "033021");
        Due.noSuch("3: other too high", () -> house.add(0, 4));
        Due.noSuch("3: first too high", () -> house.add(4, 0));
        Due.noSuch("3: both the same, and no wire", () -> house.add(4, 4));
        Due.noSuch("3: first below", () -> house.add(-1, 0));
        Due.noSuch("3: other below", () -> house.add(0, -1));
        Due.noSuch("3: extreme", () -> house.add(Integer.MIN_VALUE, Integer.MAX_VALUE));
        Due.illegal("3: the same", () -> house.add(2, 2));
        for (int i = 3; i < 24; i++) {
            Due.is("3: add", house.add(i % 3, 3), i);
        }
        Due.badState("3: there are 24", () -> house.add(0, 1));
        Due.illegal("3: the same ahead of 24", () -> house.add(1, 1));
        Due.noSuch("3: no wire ahead of 24", () -> house.add(1, 7));
        Due.is("3: comparators", house.told(1), 24);
    }

    private static void promise4() {
        Comparatory house = Houses.with(3, "011202");
        Due.is("4: take", house.take(), 2);
        Due.is("4: the last one is gone", Houses.pairs(house), "0112");
        Due.is("4: take", house.take(), 1);
        Due.is("4: take", house.take(), 0);
        Due.badState("4: there is none", house::take);
        Due.badState("4: a new house", () -> new Comparatory().take());
    }

    private static void promise5() {
        Due.is("5: bubble 2", Houses.pairs(Houses.made(2, 0)), "01");
        Due.is("5: bubble 4", Houses.pairs(Houses.made(4, 0)), "011223" + "0112" + "01");
        Due.is("5: brick 2", Houses.pairs(Houses.made(2, 1)), "01");
        Due.is("5: brick 4", Houses.pairs(Houses.made(4, 1)), "0123" + "12" + "0123" + "12");
        Due.is("5: brick 5", Houses.pairs(Houses.made(5, 1)), "0123" + "1234" + "0123" + "1234" + "0123");
        Due.is("5: merge 2", Houses.pairs(Houses.made(2, 2)), "01");
        Due.is("5: merge 3", Houses.pairs(Houses.made(3, 2)), "02" + "01" + "12");
        Due.is("5: merge 4", Houses.pairs(Houses.made(4, 2)), "0213" + "0123" + "12");
        Due.is("5: merge 5", Houses.pairs(Houses.made(5, 2)), "04" + "0213" + "24" + "0123" + "14" + "1234");
        Due.is("5: merge 6", Houses.pairs(Houses.made(6, 2)),
                "0415" + "0213" + "2435" + "012345" + "14" + "1234");
        for (int wires = 2; wires <= 6; wires++) {
            for (int what = 0; what <= 2; what++) {
                Comparatory house = Houses.of(wires);
                int made = house.make(what);
                Due.is("5: answer", made, house.told(1));
                Due.is("5: straight", house.told(4), 0);
                Due.is("5: sorts", house.sorts(), true);
                int many = what == 2 ? new int[] {0, 0, 1, 3, 5, 9, 12}[wires] : wires * (wires - 1) / 2;
                Due.is("5: how many", made, many);
            }
        }
    }

    private static void promise5Edges() {
        Comparatory house = Houses.with(3, "21");
        Due.is("5: behind what is there", house.make(0), 3);
        Due.is("5: pairs", Houses.pairs(house), "21011201");
        for (int what : new int[] {Integer.MIN_VALUE, -1, 3, Integer.MAX_VALUE}) {
            Due.illegal("5: what " + what, () -> house.make(what));
        }
        Comparatory six = Houses.made(6, 0);
        Due.badState("5: 30 are too many", () -> six.make(1));
        Due.badState("5: 27 are too many", () -> six.make(2));
        Due.is("5: nothing was made", six.told(1), 15);
        Due.illegal("5: what ahead of too many", () -> six.make(3));
        Comparatory exact = Houses.made(6, 2);
        Due.is("5: just 24", exact.make(2), 12);
        Comparatory five = Houses.made(5, 0);
        five.make(2);
        Due.badState("5: one too many", () -> { five.take(); five.take(); five.take(); five.make(2); });
        five.take();
        Due.is("5: room for 9", five.make(2), 9);
    }

    private static void promise6() {
        Comparatory house = Houses.with(4, "011331");
        house.mirror();
        Due.is("6: mirrored", Houses.pairs(house), "230220");
        house.mirror();
        Due.is("6: twice", Houses.pairs(house), "011331");
        Comparatory six = Houses.with(6, "052414");
        six.mirror();
        Due.is("6: mirrored", Houses.pairs(six), "051314");
        Comparatory none = Houses.of(5);
        none.mirror();
        Due.is("6: none", none.told(1), 0);
    }

    private static void promise7() {
        Comparatory house = Houses.with(4, "301213");
        Due.is("7: untangle", house.untangle(), 2);
        Due.is("7: pairs", Houses.pairs(house), "031201");
        Due.is("7: straight already", house.untangle(), 0);
        Comparatory two = Houses.with(2, "100110");
        Due.is("7: two wires", two.untangle(), 3);
        Due.is("7: two wires", Houses.pairs(two), "010101");
        Comparatory ahead = Houses.with(4, "233213");
        Due.is("7: not those ahead", ahead.untangle(), 1);
        Due.is("7: not those ahead", Houses.pairs(ahead), "232312");
        Comparatory chain = Houses.with(5, "40012334");
        Due.is("7: chain", chain.untangle(), 3);
        Due.is("7: chain", Houses.pairs(chain), "04142303");
    }

    private static void promise8() {
        Comparatory house = Houses.with(3, "010112100212");
        Due.is("8: dead", house.told(3), 3);
        Due.is("8: prune", house.prune(), 3);
        Due.is("8: pairs", Houses.pairs(house), "011210");
        Comparatory sorter = Houses.made(4, 2);
        sorter.make(0);
        Due.is("8: dead behind a sorter", sorter.told(3), 6);
        Due.is("8: prune", sorter.prune(), 6);
        Due.is("8: the sorter is left", Houses.pairs(sorter), "0213012312");
        Due.is("8: none dead", sorter.prune(), 0);
        Due.is("8: turned ones are not dead", Houses.with(2, "0110").prune(), 0);
        Due.is("8: the same turned ones are", Houses.with(2, "1010").prune(), 1);
        Due.is("8: an empty one", Houses.of(6).prune(), 0);
        Comparatory full = Houses.full(6);
        Due.is("8: all but one", full.prune(), 23);
        Due.is("8: one is left", Houses.pairs(full), "01");
        Comparatory deadAhead = Houses.with(3, "0112010102");
        Due.is("8: dead between", deadAhead.prune(), 2);
        Due.is("8: kept in order", Houses.pairs(deadAhead), "011201");
    }

    private static void promise9() {
        Comparatory house = Houses.with(5, "4001230110");
        Due.is("9: wires", house.told(0), 5);
        Due.is("9: comparators", house.told(1), 5);
        Due.is("9: layers", house.told(2), 4);
        Due.is("9: dead", house.told(3), 1);
        Due.is("9: not straight", house.told(4), 2);
        Due.is("9: length of the text", house.told(5), 19);
        Due.is("9: one pair", Houses.with(2, "01").told(5), 3);
        Due.is("9: the longest text", Houses.full(3).told(5), 95);
        Due.is("9: most layers", Houses.full(3).told(2), 24);
        Due.is("9: all dead but one", Houses.full(3).told(3), 23);
        for (int what : new int[] {Integer.MIN_VALUE, -1, 6, Integer.MAX_VALUE}) {
            Due.illegal("9: what " + what, () -> house.told(what));
        }
    }

    private static void promise10() {
        Comparatory house = Houses.with(4, "300112");
        Due.is("10: first", house.comparator(0, 0), 3);
        Due.is("10: other", house.comparator(0, 1), 0);
        Due.is("10: first", house.comparator(2, 0), 1);
        Due.is("10: other", house.comparator(2, 1), 2);
        Due.is("10: a quarter of all rows", house.comparator(0, 3), 4);
        Due.is("10: exchanges of a pair", Houses.with(2, "01").comparator(0, 3), 1);
        Due.is("10: exchanges of 6 wires", Houses.with(6, "42").comparator(0, 3), 16);
        Comparatory merge = Houses.made(4, 2);
        int[] exchanges = {4, 4, 3, 3, 2};
        for (int i = 0; i < 5; i++) {
            Due.is("10: exchanges of " + i, merge.comparator(i, 3), exchanges[i]);
        }
        Due.is("10: a dead one", Houses.with(2, "0101").comparator(1, 3), 0);
        Due.is("10: a turned one", Houses.with(2, "0110").comparator(1, 3), 2);
        Due.noSuch("10: no such", () -> house.comparator(3, 0));
        Due.noSuch("10: below", () -> house.comparator(-1, 0));
        Due.noSuch("10: no such, ahead of what", () -> house.comparator(3, 9));
        Due.illegal("10: what", () -> house.comparator(0, 4));
        Due.illegal("10: what below", () -> house.comparator(2, -1));
        Due.noSuch("10: extreme", () -> house.comparator(Integer.MIN_VALUE, 0));
        Due.noSuch("10: none there", () -> Houses.of(6).comparator(0, 0));
    }

    private static void promise10Layers() {
        Due.is("10: layers of bubble", Houses.layers(Houses.made(4, 0)), "012234");
        Due.is("10: layers of brick", Houses.layers(Houses.made(5, 1)), "0011223344");
        Due.is("10: layers of merge", Houses.layers(Houses.made(6, 2)), "001122233455");
        Due.is("10: a late one in the layer 0", Houses.layers(Houses.with(6, "010112234554")), "012301");
        Due.is("10: the greatest one counts", Houses.layers(Houses.with(5, "0101013402233412")), "01203455");
    }

    private static void promise11() {
        Due.is("11: text", Houses.text(Houses.with(6, "5401234501")), "0:1 2:3 5:4/0:1 4:5");
        Due.is("11: by layers", Houses.text(Houses.made(4, 0)), "0:1/1:2/0:1 2:3/1:2/0:1");
        Due.is("11: by the lower wire", Houses.text(Houses.with(6, "450231")), "0:2 3:1 4:5");
        Due.is("11: as they are", Houses.text(Houses.with(3, "2102")), "2:1/0:2");
        Due.is("11: merge", Houses.text(Houses.made(5, 2)), "0:4 1:3/0:2/0:1 2:4/1:4 2:3/1:2 3:4");
        Comparatory house = Houses.with(2, "01");
        Due.is("11: a blank behind the end", house.textAt(3), ' ');
        Due.is("11: far behind it", house.textAt(Integer.MAX_VALUE), ' ');
        Due.is("11: first", house.textAt(0), '0');
        Due.is("11: second", house.textAt(1), ':');
        Due.is("11: third", house.textAt(2), '1');
        Due.is("11: an empty text", new Comparatory().textAt(0), ' ');
        Due.noSuch("11: below 0", () -> house.textAt(-1));
        Due.noSuch("11: far below 0", () -> house.textAt(Integer.MIN_VALUE));
        Comparatory full = Houses.full(4);
        Due.is("11: the last pair of 24", full.textAt(92), '0');
        Due.is("11: the last sign", full.textAt(94), '1');
        Due.is("11: behind it", full.textAt(95), ' ');
    }

    /** Each call that touches the comparators forgets the tokens, even if it changes nothing. */
    private static void tokensAreForgotten() {
        for (int call = 0; call < 8; call++) {
            Comparatory house = Houses.with(3, "01");
            house.type(Houses.packed("1:2"), 3);
            house.token(2);
            house.token(0);
            switch (call) {
                case 0: house.network(3); break;
                case 1: house.add(1, 2); break;
                case 2: house.take(); break;
                case 3: house.make(1); break;
                case 4: house.mirror(); break;
                case 5: Due.is("nothing to untangle", house.untangle(), 0); break;
                case 6: Due.is("nothing to prune", house.prune(), 0); break;
                default: house.build(); break;
            }
            Due.is("forgotten by call " + call, house.came(0) + house.came(1) + house.came(2), 0);
            Due.is("forgotten anew by call " + call,
                    house.cameAnew(0) + house.cameAnew(1) + house.cameAnew(2), 0);
        }
        Comparatory house = Houses.with(2, "01");
        house.token(0);
        house.prune();
        Due.is("whose turn it is is forgotten too", house.token(0), 0);
    }

    private static void refusedCallsChangeNothing() {
        Comparatory house = Houses.full(3);
        house.type(Houses.packed("0:1"), 3);
        house.token(2);
        house.token(0);
        house.ask(0, 1);
        Due.badState("full", () -> house.add(0, 1));
        Due.badState("full", () -> house.make(2));
        Due.badState("full", house::build);
        Due.illegal("wires", () -> house.network(1));
        Due.illegal("what", () -> house.make(-1));
        Due.noSuch("wire", () -> house.add(3, 0));
        Due.is("the tokens are there", house.came(2), 1);
        Due.is("the tokens are there", house.came(0) + house.came(1), 1);
        Due.is("the answers are there", house.left(), 3);
        Due.is("the comparators are there", house.told(1), 24);
        Due.is("the tape is there", house.wipe(), 3);
        Comparatory none = Houses.of(2);
        none.token(1);
        Due.badState("none to take", none::take);
        Due.illegal("no text to build", none::build);
        Due.is("the token is there", none.came(1), 1);
    }
}
