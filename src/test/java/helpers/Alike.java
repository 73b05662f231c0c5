import java.util.List;

/** Asks Comparatory and Slow the same of the same network: every call that asks of it. */
final class Alike {
    private final boolean isBegun;
    private final int wires;
    private final String pairs;
    private final String name;
    private Comparatory house;
    private final Slow slow;

    private Alike(boolean isBegun, int wires, String pairs) {
        this.isBegun = isBegun;
        this.wires = wires;
        this.pairs = pairs;
        this.name = pairs.length() / 2 + " comparators on " + wires + " wires (" + pairs + ")";
        this.slow = Slow.with(wires, pairs);
    }

    /** Pairs as with Houses.with(). */
    static void network(int wires, String pairs) {
        new Alike(true, wires, pairs).all();
    }

    /** On the 2 wires of a new house, without a call of network(). */
    static void newHouse(String pairs) {
        new Alike(false, 2, pairs).all();
    }

    private void all() {
        drawn();
        proved();
        faulty();
        routed();
        counted();
        changed();
    }

    private void anew() {
        house = new Comparatory();
        if (isBegun) {
            house.network(wires);
        }
        for (int i = 0; i < pairs.length(); i += 2) {
            house.add(pairs.charAt(i) - '0', pairs.charAt(i + 1) - '0');
        }
    }

    private void same(String call, Due.Call got, Due.Call want) {
        Due.is(call + ", " + name, Due.told(got), Due.told(want));
    }

    private static long bit(boolean is) {
        return is ? 1 : 0;
    }

    private void drawn() {
        anew();
        for (int i = -1; i <= 6; i++) {
            int what = i;
            same("9: told " + i, () -> house.told(what), () -> slow.told(what));
        }
        for (int i = -1; i <= slow.comparators.size(); i++) {
            for (int what = 0; what < 4; what++) {
                int number = i;
                int asked = what;
                same("10: comparator " + i + " " + what,
                        () -> house.comparator(number, asked), () -> slow.comparator(number, asked));
            }
        }
        for (int i = -1; i <= slow.text().length() + 1; i++) {
            int place = i;
            same("11: textAt " + i, () -> house.textAt(place), () -> slow.textAt(place));
        }
    }

    private void proved() {
        anew();
        same("17: outputs", () -> house.outputs(), () -> slow.outputs());
        same("18: sorts", () -> bit(house.sorts()), () -> bit(slow.sorts()));
        same("19: sorted", () -> house.sorted(), () -> slow.sorted());
        for (int i = -1; i <= 1 << wires; i++) {
            int place = i;
            same("20: wrong " + i, () -> house.wrong(place), () -> slow.wrong(place));
        }
        for (int i = -1; i <= 4; i++) {
            int most = i;
            same("21: finishes " + i, () -> house.finishes(most), () -> slow.finishes(most));
        }
        for (int i = -1; i <= wires; i++) {
            int wire = i;
            same("22: merges " + i, () -> bit(house.merges(wire)), () -> bit(slow.merges(wire)));
            same("23: chooses " + i, () -> bit(house.chooses(wire)), () -> bit(slow.chooses(wire)));
        }
        same("24: off", () -> house.off(), () -> slow.off());
    }

    private void faulty() {
        anew();
        for (int i = 0; i < slow.comparators.size(); i++) {
            for (int fault = 0; fault < 3; fault++) {
                int number = i;
                int asked = fault;
                same("31: bad " + i + " " + fault, () -> house.bad(number, asked), () -> slow.bad(number, asked));
                same("32: tells " + i + " " + fault, () -> house.tells(number, asked), () -> slow.tells(number, asked));
            }
        }
        for (long rows : new long[] {0, 1, 2, 4, 6, 1L << 31, 1L << 32, 1L << 62, 1L << 63, Long.MAX_VALUE, -1L}) {
            same("33: hidden " + rows, () -> house.hidden(rows), () -> slow.hidden(rows));
        }
        same("34: tests", () -> house.tests(), () -> slow.tests());
        same("35: bears", () -> bit(house.bears()), () -> bit(slow.bears()));
    }

    private void routed() {
        anew();
        same("25: routes", () -> house.routes(), () -> slow.routes());
        List<int[]> rows = Slow.rows(wires);
        int apart = 1 + rows.size() / 60;
        for (int i = 0; i < rows.size(); i += apart) {
            int code = Slow.code(rows.get(i));
            same("16: run " + code, () -> house.run(code), () -> slow.run(code));
            same("26: setting " + code, () -> house.setting(code), () -> slow.setting(code));
        }
    }

    private void counted() {
        anew();
        for (int i = 0; i < 24; i++) {
            int wire = (i * i + i / 7) % wires;
            same("27: token " + wire + ", the number " + i, () -> house.token(wire), () -> slow.token(wire));
            for (int each = 0; each < wires; each++) {
                int asked = each;
                same("28: came " + each, () -> house.came(asked), () -> slow.came(asked));
                same("29: cameAnew " + each, () -> house.cameAnew(asked), () -> slow.cameAnew(asked));
            }
            same("30: isStep", () -> bit(house.isStep()), () -> bit(slow.isStep()));
        }
    }

    private void changed() {
        anew();
        same("7: untangle", () -> house.untangle(), () -> slow.untangle());
        samePairs("7: untangled");
        same("8: prune", () -> house.prune(), () -> slow.prune());
        samePairs("8: pruned");
        house.mirror();
        slow.mirror();
        samePairs("6: mirrored");
        same("4: take", () -> house.take(), () -> slow.take());
        samePairs("4: taken");
    }

    private void samePairs(String call) {
        StringBuilder due = new StringBuilder();
        for (int[] pair : slow.comparators) {
            due.append(pair[0]).append(pair[1]);
        }
        Due.is(call + ", " + name, Houses.pairs(house), due.toString());
    }
}
