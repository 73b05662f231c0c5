/** The sentences of "Rows, comparators" and "Changing networks" at their edges: promises 1 to 11. */
public final class NetworkEdgesTest {
    public static void main(String[] args) {
        begunAnew();
        begunWithMoreWires();
        everyPair();
        straightOrNot();
        equalValuesDoNotExchange();
        layers();
        theGreatestLayer();
        dead();
        theLastThatIsNotDead();
        mirrored();
        untangled();
        untangledFromTheFirst();
        pruned();
        bubbleFromTheLastWire();
        brickAtEvenAndOddTimes();
        mergeByPowers();
        made();
        textByTheLowerWire();
        textByLayers();
        strokesAndBlanks();
        endsOfTexts();
        tokensAreForgotten();
        tokensAreKept();
        Due.end();
    }

    /** "Begins a network without comparators", be it of as many wires as the one before. */
    private static void begunAnew() {
        for (int wires = 2; wires <= 6; wires++) {
            Comparatory house = Houses.made(wires, 1);
            house.token(0);
            house.ask(0, 1);
            Due.is("2: the one before", house.network(wires), wires * (wires - 1) / 2);
            Due.is("2: like a new one", State.of(house), State.of(Houses.of(wires)));
            Due.is("2: like a new one later", State.later(house), State.later(Houses.of(wires)));
        }
    }

    /** What was on wires before is not on the wires of a later network. */
    private static void begunWithMoreWires() {
        for (int before = 2; before <= 6; before++) {
            for (int wires = 2; wires <= 6; wires++) {
                Comparatory house = Houses.made(before, 2);
                for (int wire = 0; wire < before; wire++) {
                    house.token(wire);
                    house.ask(wire, (wire + 1) % before);
                }
                house.routes();
                house.far(2, Slow.code(Slow.rows(before).get(0)));
                house.network(wires);
                String name = "2: from " + before + " to " + wires;
                Due.is(name, State.of(house), State.of(Houses.of(wires)));
                Due.is(name + ", later", State.later(house), State.later(Houses.of(wires)));
            }
        }
    }

    /** "A comparator is of two unlike wires": each of them may be its first one. */
    private static void everyPair() {
        for (int wires = 2; wires <= 6; wires++) {
            for (int first = 0; first < wires; first++) {
                for (int other = 0; other < wires; other++) {
                    if (first != other) {
                        Alike.network(wires, "" + first + other);
                    }
                }
            }
        }
    }

    /** "It is straight, if its first wire has the lower number." */
    private static void straightOrNot() {
        Due.is("9: the least apart", Houses.with(6, "45").told(4), 0);
        Due.is("9: the least apart, turned", Houses.with(6, "54").told(4), 1);
        Due.is("9: the farthest apart", Houses.with(6, "05").told(4), 0);
        Due.is("9: the farthest apart, turned", Houses.with(6, "50").told(4), 1);
        Due.is("9: all turned", Houses.with(3, "102120").told(4), 3);
        Due.is("9: none turned", Houses.with(3, "011202").told(4), 0);
    }

    /** "It exchanges, if the greater one was on the first one": not if both are the same. */
    private static void equalValuesDoNotExchange() {
        for (int wires = 2; wires <= 6; wires++) {
            Due.is("10: a quarter of all rows", Houses.with(wires, "01").comparator(0, 3), 1 << (wires - 2));
            Due.is("10: a quarter, turned", Houses.with(wires, "10").comparator(0, 3), 1 << (wires - 2));
            Due.is("10: half, turned behind", Houses.with(wires, "0110").comparator(1, 3), 1 << (wires - 1));
            Due.is("10: none, the same behind", Houses.with(wires, "0101").comparator(1, 3), 0);
        }
    }

    /** "0, if no comparator ahead of it has a wire of its." */
    private static void layers() {
        Due.is("10: the first one", Houses.layers(Houses.with(2, "10")), "0");
        Due.is("10: apart from all ahead", Houses.layers(Houses.with(6, "0123012345")), "00110");
        Due.is("10: at its first wire by a first one", Houses.layers(Houses.with(3, "0102")), "01");
        Due.is("10: at its first wire by an other one", Houses.layers(Houses.with(3, "0112")), "01");
        Due.is("10: at its other wire by a first one", Houses.layers(Houses.with(3, "0120")), "01");
        Due.is("10: at its other wire by an other one", Houses.layers(Houses.with(3, "0121")), "01");
        Due.is("10: not by those behind it", Houses.layers(Houses.with(4, "012302")), "001");
        Due.is("9: no layer", Houses.of(6).told(2), 0);
        Due.is("9: one layer", Houses.with(6, "012345").told(2), 1);
        Due.is("9: two layers", Houses.with(6, "01234505").told(2), 2);
        Due.is("9: as many as comparators", Houses.full(6).told(2), 24);
    }

    /** "Otherwise one more than the greatest layer of those that have." */
    private static void theGreatestLayer() {
        Due.is("10: the greater one at its first wire", Houses.layers(Houses.with(4, "01010123" + "12")), "01203");
        Due.is("10: the greater one at its other wire", Houses.layers(Houses.with(4, "01010123" + "21")), "01203");
        Due.is("10: not the latest one", Houses.layers(Houses.with(5, "010101" + "23" + "0213")), "012033");
        Due.is("10: only those with a wire of its", Houses.layers(Houses.with(5, "010101" + "23" + "34")), "01201");
        Due.is("9: the greatest of all, not the last", Houses.with(5, "010101" + "23" + "34").told(2), 3);
    }

    /** "Dead, if it does not exchange for any row of noughts and ones that goes into the network." */
    private static void dead() {
        Due.is("9: the first one never is", Houses.with(6, "50").told(3), 0);
        Due.is("9: the same again", Houses.with(6, "0505").told(3), 1);
        Due.is("9: not the turned one", Houses.with(6, "0550").told(3), 0);
        Due.is("9: by all that is ahead", Houses.with(3, "011202" + "01").told(3), 1);
        Due.is("9: one row is enough", Houses.with(2, "01").comparator(0, 3), 1);
        Due.is("9: with one row it is not dead", Houses.with(2, "01").told(3), 0);
        Due.is("9: all behind a network that sorts", Houses.with(3, "010212" + "0112").told(3), 2);
        Due.is("9: 23 of 24", Houses.full(2).told(3), 23);
    }

    /** A comparator that exchanges for one row only stays; one that exchanges for none goes. */
    private static void theLastThatIsNotDead() {
        for (int wires = 3; wires <= 5; wires++) {
            Comparatory house = Houses.made(wires, 0);
            int last = house.told(1) - 1;
            Due.is("10: the last one", house.comparator(last, 3) > 0, true);
            Due.is("8: none goes", house.prune(), 0);
            house.add(0, 1);
            Due.is("10: one more", house.comparator(last + 1, 3), 0);
            Due.is("8: it goes", house.prune(), 1);
            Due.is("8: the last one stays", house.told(1), last + 1);
        }
        Comparatory one = Houses.with(4, "1312030201" + "23");
        Due.is("10: for one row", one.comparator(5, 3), 1);
        Due.is("9: not dead", one.told(3), 0);
        Due.is("8: it stays", one.prune(), 0);
        one.add(2, 3);
        Due.is("10: for none", one.comparator(6, 3), 0);
        Due.is("8: it goes", one.prune(), 1);
    }

    /** "First wire n less 1 less its other one, other wire n less 1 less its first one." */
    private static void mirrored() {
        for (int wires = 2; wires <= 6; wires++) {
            int last = wires - 1;
            for (int first = 0; first < wires; first++) {
                for (int other = 0; other < wires; other++) {
                    if (first != other) {
                        Comparatory house = Houses.with(wires, "" + first + other);
                        house.mirror();
                        Due.is("6: " + first + other + " of " + wires, Houses.pairs(house), "" + (last - other) + (last - first));
                    }
                }
            }
        }
        Comparatory full = Houses.full(6);
        full.mirror();
        Due.is("6: the first of 24", full.comparator(0, 0), 4);
        Due.is("6: the last of 24", full.comparator(23, 1), 5);
        Due.is("6: still 24", full.told(1), 24);
    }

    /** "Its two wires change their names with one another, in it and in all behind it." */
    private static void untangled() {
        Comparatory none = Houses.with(4, "01122313");
        Due.is("7: nothing to do", none.untangle(), 0);
        Due.is("7: as before", Houses.pairs(none), "01122313");
        Comparatory last = Houses.with(3, "011220");
        Due.is("7: the last one", last.untangle(), 1);
        Due.is("7: none ahead of it", Houses.pairs(last), "011202");
        Comparatory others = Houses.with(6, "102345");
        Due.is("7: those without its wires", others.untangle(), 1);
        Due.is("7: stay as they are", Houses.pairs(others), "012345");
        Comparatory mends = Houses.with(3, "1010");
        Due.is("7: one mends the next", mends.untangle(), 1);
        Due.is("7: both straight", Houses.pairs(mends), "0101");
        Comparatory spoils = Houses.with(3, "1001");
        Due.is("7: one spoils the next", spoils.untangle(), 2);
        Due.is("7: both straight again", Houses.pairs(spoils), "0101");
    }

    private static void untangledFromTheFirst() {
        Comparatory alike = Houses.of(2);
        Comparatory unlike = Houses.of(2);
        for (int i = 0; i < 24; i++) {
            alike.add(1, 0);
            unlike.add((i + 1) % 2, i % 2);
        }
        Due.is("7: the first of 24 mends all", alike.untangle(), 1);
        Due.is("7: each of 24", unlike.untangle(), 24);
        Due.is("7: all straight", alike.told(4) + unlike.told(4), 0);
        Due.is("7: again", alike.untangle() + unlike.untangle(), 0);
        Comparatory first = Houses.with(4, "30" + "03" + "31" + "20");
        Due.is("7: from the first one on", first.untangle(), 4);
        Due.is("7: by the new names", Houses.pairs(first), "03" + "03" + "13" + "02");
    }

    /** "To prune it is to take all dead comparators away." */
    private static void pruned() {
        Due.is("8: none there", Houses.of(2).prune(), 0);
        Comparatory none = Houses.made(6, 0);
        Due.is("8: none dead", none.prune(), 0);
        Due.is("8: all stay", none.told(1), 15);
        Comparatory first = Houses.with(2, "0101");
        Due.is("8: all but the first", first.prune(), 1);
        Comparatory full = Houses.full(2);
        Due.is("8: 23", full.prune(), 23);
        Due.is("8: one stays", full.told(1), 1);
        Due.is("3: and there is room", full.add(1, 0), 1);
        Comparatory middle = Houses.with(3, "01" + "12" + "12" + "01");
        Due.is("8: one in the middle", middle.prune(), 1);
        Due.is("8: the others in order", Houses.pairs(middle), "011201");
        Due.is("8: none dead now", middle.told(3), 0);
    }

    /** "For each wire from the last one down to 1": the wire 1 is the last one to have its turn. */
    private static void bubbleFromTheLastWire() {
        Due.is("5: of 2", Houses.pairs(Houses.made(2, 0)), "01");
        Due.is("5: of 3", Houses.pairs(Houses.made(3, 0)), "0112" + "01");
        Due.is("5: of 5", Houses.pairs(Houses.made(5, 0)), "01122334" + "011223" + "0112" + "01");
        Due.is("5: of 6", Houses.pairs(Houses.made(6, 0)), "0112233445" + "01122334" + "011223" + "0112" + "01");
    }

    /** "As many times as there are wires, from 0 on." */
    private static void brickAtEvenAndOddTimes() {
        Due.is("5: of 2, nothing at the odd time", Houses.pairs(Houses.made(2, 1)), "01");
        Due.is("5: of 3", Houses.pairs(Houses.made(3, 1)), "01" + "12" + "01");
        Due.is("5: of 4", Houses.pairs(Houses.made(4, 1)), "0123" + "12" + "0123" + "12");
        Due.is("5: of 6", Houses.pairs(Houses.made(6, 1)), "012345" + "1234" + "012345" + "1234" + "012345" + "1234");
    }

    /** "T the least power of 2 that is not below the number of wires": 2 of 2, 4 of 3 and 4, 8 of 5. */
    private static void mergeByPowers() {
        Due.is("5: of 2", Houses.pairs(Houses.made(2, 2)), "01");
        Due.is("5: of 3", Houses.pairs(Houses.made(3, 2)), "02" + "01" + "12");
        Due.is("5: of 4", Houses.pairs(Houses.made(4, 2)), "0213" + "0123" + "12");
        Due.is("5: of 5", Houses.pairs(Houses.made(5, 2)), "04" + "0213" + "24" + "0123" + "14" + "1234");
        Due.is("5: of 6", Houses.pairs(Houses.made(6, 2)), "0415" + "0213" + "2435" + "012345" + "14" + "1234");
    }

    /** "Each comparator straight, all behind what is there", and the network sorts with them. */
    private static void made() {
        for (int wires = 2; wires <= 6; wires++) {
            for (int what = 0; what < 3; what++) {
                Comparatory house = Houses.with(wires, "1001");
                int made = house.make(what);
                Due.is("5: how many", house.told(1), 2 + made);
                Due.is("5: behind what is there", Houses.pairs(house).substring(0, 4), "1001");
                Due.is("5: the same as alone", Houses.pairs(house).substring(4), Houses.pairs(Houses.made(wires, what)));
                Due.is("5: straight but for one", house.told(4), 1);
                Due.is("18: sorts", house.sorts(), true);
            }
        }
    }

    /** "Those of one by the lower one of their wires, rising": be it the first one or the other one. */
    private static void textByTheLowerWire() {
        Due.is("11: the lower one is the other one", Houses.text(Houses.with(6, "1250")), "5:0 1:2");
        Due.is("11: though its first one is higher", Houses.text(Houses.with(6, "435120")), "2:0 5:1 4:3");
        Due.is("11: in order already", Houses.text(Houses.with(6, "013254")), "0:1 3:2 5:4");
        Due.is("11: the other way round", Houses.text(Houses.with(6, "543201")), "0:1 3:2 5:4");
        Due.is("11: within each layer", Houses.text(Houses.with(4, "32103120")), "1:0 3:2/2:0 3:1");
    }

    private static void textByLayers() {
        Due.is("11: a late one of the layer 0", Houses.text(Houses.with(4, "010132")), "0:1 3:2/0:1");
        Due.is("11: layers ahead of wires", Houses.text(Houses.with(6, "4545" + "01")), "0:1 4:5/4:5");
        Comparatory full = Houses.of(6);
        for (int i = 0; i < 24; i++) {
            full.add(2 * (i % 3), 2 * (i % 3) + 1);
        }
        StringBuilder due = new StringBuilder("0:1 2:3 4:5");
        for (int layer = 1; layer < 8; layer++) {
            due.append("/0:1 2:3 4:5");
        }
        Due.is("11: 24 in eight layers", Houses.text(full), due.toString());
    }

    /** "With a stroke between those of unlike layers, and a blank between others." */
    private static void strokesAndBlanks() {
        Due.is("11: blanks alone", Houses.text(Houses.with(6, "012345")), "0:1 2:3 4:5");
        Due.is("11: strokes alone", Houses.text(Houses.with(2, "011001")), "0:1/1:0/0:1");
        Due.is("11: at each end", Houses.text(Houses.with(4, "0123" + "12" + "0123")), "0:1 2:3/1:2/0:1 2:3");
        StringBuilder due = new StringBuilder("0:1");
        for (int i = 1; i < 24; i++) {
            due.append("/0:1");
        }
        Due.is("11: 23 strokes", Houses.text(Houses.full(5)), due.toString());
    }

    /** "The character; a blank behind the end." */
    private static void endsOfTexts() {
        for (int many = 1; many <= 24; many++) {
            Comparatory house = Houses.of(2);
            for (int i = 0; i < many; i++) {
                house.add(1, 0);
            }
            int length = 4 * many - 1;
            Due.is("9: length", house.told(5), length);
            Due.is("11: the last one", house.textAt(length - 1), '0');
            Due.is("11: behind it", house.textAt(length), ' ');
            Due.is("11: two behind it", house.textAt(length + 1), ' ');
            Due.is("11: the place of a colon behind it", house.textAt(length + 2), ' ');
            Due.is("11: far behind it", house.textAt(Integer.MAX_VALUE), ' ');
        }
        Due.is("11: of none", Houses.of(6).textAt(0), ' ');
        Due.is("11: of none, behind", Houses.of(6).textAt(1), ' ');
    }

    private static Comparatory withTokens() {
        Comparatory house = Houses.with(3, "01");
        Houses.typeAnew(house, "1:2");
        house.token(0);
        house.token(2);
        return house;
    }

    private static void forgets(String call, Comparatory house) {
        for (int wire = 0; wire < house.told(0); wire++) {
            Due.is("28: by " + call, house.came(wire), 0);
            Due.is("29: by " + call, house.cameAnew(wire), 0);
        }
        Due.is("30: by " + call, house.isStep(), true);
        if (house.told(1) > 0) {
            Due.is("27: by " + call + " the turn as well", house.token(0), house.comparator(0, 0));
        }
    }

    /** "Whether they change anything or not, all tokens are forgotten." */
    private static void tokensAreForgotten() {
        Comparatory house = withTokens();
        house.network(3);
        forgets("network", house);
        house = withTokens();
        house.add(2, 1);
        forgets("add", house);
        house = Houses.with(3, "0112");
        house.token(0);
        house.take();
        forgets("take", house);
        house = withTokens();
        house.make(0);
        forgets("make", house);
        house = Houses.with(2, "01");
        house.token(0);
        house.mirror();
        forgets("mirror that changes nothing", house);
        house = withTokens();
        house.untangle();
        forgets("untangle that changes nothing", house);
        house = withTokens();
        house.prune();
        forgets("prune that changes nothing", house);
        house = withTokens();
        house.build();
        Due.is("15: behind build", house.told(1), 2);
        forgets("build", house);
        house = Houses.of(2);
        house.token(1);
        house.mirror();
        forgets("mirror of none", house);
        house.token(1);
        house.untangle();
        forgets("untangle of none", house);
        house.token(1);
        house.prune();
        forgets("prune of none", house);
        house.token(1);
        house.network(2);
        forgets("network of as many wires", house);
    }

    /** Calls other than those leave the tokens where they are. */
    private static void tokensAreKept() {
        Comparatory house = withTokens();
        house.type(Houses.packed("/0:2"), 4);
        house.fault();
        house.wipe();
        house.ask(0, 1);
        house.routes();
        house.setting(210);
        house.run(12);
        house.tests();
        house.finishes(3);
        Due.is("28: on 0", house.came(0), 1);
        Due.is("28: on 2", house.came(2), 1);
        Due.is("29: on 0", house.cameAnew(0), 1);
        Due.is("27: the turn too", house.token(1), 1);
    }
}
