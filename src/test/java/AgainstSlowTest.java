/** Long runs of mixed calls, with the answers of Comparatory and of Slow side by side. */
public final class AgainstSlowTest {
    private static final int RUNS = 260;
    /** An object is used for at most 512 calls; the last turn may go on to 510. */
    private static final int CALLS = 508;

    private static long seed = 20261119L;
    private static Comparatory house;
    private static Slow slow;
    private static int run;
    private static int calls;

    /** The upper bits of a linear congruence: the same numbers each time. */
    private static int below(int bound) {
        seed = seed * 6364136223846793005L + 1442695040888963407L;
        return (int) ((seed >>> 33) % bound);
    }

    private static long anyLong() {
        return (long) below(1 << 30) << 40 ^ (long) below(1 << 30) << 20 ^ below(1 << 30);
    }

    private static boolean oneIn(int many) {
        return below(many) == 0;
    }

    /** Mostly from 0 up to one less than the bound, now and then outside. */
    private static int near(int bound) {
        if (oneIn(60)) {
            return oneIn(2) ? Integer.MIN_VALUE : Integer.MAX_VALUE;
        }
        if (oneIn(12)) {
            return oneIn(2) ? -1 : bound;
        }
        return bound > 0 ? below(bound) : 0;
    }

    private static int code() {
        int[] row = Slow.rows(slow.wires).get(below(Slow.rows(slow.wires).size()));
        int code = Slow.code(row);
        switch (below(40)) {
            case 0:
                return -code;
            case 1:
                return code + 1;
            case 2:
                return code + 1000000;
            case 3:
                return below(600000);
            case 4:
                return Integer.MIN_VALUE;
            default:
                return code;
        }
    }

    private static long signs(int n) {
        long signs = 0;
        int phase = slow.tape.length();
        for (int i = 0; i < 8; i++, phase++) {
            String likely = phase % 4 == 1 ? ":" : phase % 4 == 3 ? " //" : "012345".substring(0, slow.wires);
            String from = oneIn(25) ? "012345:/ " : likely;
            char sign = from.charAt(below(from.length()));
            if (oneIn(150) || i >= n && oneIn(2)) {
                sign = "6;.!~-\u0000\u00ff".charAt(below(8));
            }
            signs |= (long) sign << (8 * i);
        }
        return signs;
    }

    private static void same(String call, Due.Call got, Due.Call want) {
        calls++;
        String due = Due.told(want);
        String is = Due.told(got);
        String place = is.equals(due) ? "" : " on " + slow.wires + " wires, " + slow.text();
        Due.is("run " + run + ": " + call + place, is, due);
    }

    private static long bit(boolean is) {
        return is ? 1 : 0;
    }

    private static void changeNetwork() {
        int a = near(slow.wires);
        int b = near(slow.wires);
        switch (below(12)) {
            case 0:
                int wires = oneIn(8) ? near(7) : 2 + below(5);
                same("network " + wires, () -> house.network(wires), () -> slow.network(wires));
                break;
            case 1:
                same("take", () -> house.take(), () -> slow.take());
                break;
            case 2:
                int what = near(3);
                same("make " + what, () -> house.make(what), () -> slow.make(what));
                break;
            case 3:
                calls++;
                house.mirror();
                slow.mirror();
                break;
            case 4:
                same("untangle", () -> house.untangle(), () -> slow.untangle());
                break;
            case 5:
                if (oneIn(2)) {
                    same("prune", () -> house.prune(), () -> slow.prune());
                }
                break;
            default:
                same("add " + a + " " + b, () -> house.add(a, b), () -> slow.add(a, b));
                break;
        }
    }

    private static void askOfNetwork() {
        int c = near(slow.comparators.size());
        int what = near(6);
        int part = near(4);
        int place = near(slow.text().length() + 3);
        switch (below(4)) {
            case 0:
                same("told " + what, () -> house.told(what), () -> slow.told(what));
                break;
            case 1:
                same("textAt " + place, () -> house.textAt(place), () -> slow.textAt(place));
                break;
            default:
                same("comparator " + c + " " + part,
                        () -> house.comparator(c, part), () -> slow.comparator(c, part));
                break;
        }
    }

    private static void useTape() {
        int n = oneIn(30) ? near(9) : 1 + below(8);
        long signs = signs(n);
        switch (below(8)) {
            case 0:
                if (oneIn(3)) {
                    same("wipe", () -> house.wipe(), () -> slow.wipe());
                }
                break;
            case 1:
            case 2:
                same("fault of " + slow.tape, () -> house.fault(), () -> slow.fault());
                break;
            case 3:
                same("build of " + slow.tape, () -> house.build(), () -> slow.build());
                break;
            default:
                same("type " + signs + " " + n, () -> house.type(signs, n), () -> slow.type(signs, n));
                if (slow.fault() >= 0 && slow.fault() < slow.tape.length() && oneIn(2)) {
                    same("fault of " + slow.tape, () -> house.fault(), () -> slow.fault());
                    same("wipe", () -> house.wipe(), () -> slow.wipe());
                }
                break;
        }
    }

    private static void askWhatItDoes() {
        int code = code();
        int place = near(oneIn(2) ? 4 : 60);
        int wire = near(slow.wires);
        int most = near(oneIn(6) ? 4 : 3);
        switch (below(9)) {
            case 0:
                same("run " + code, () -> house.run(code), () -> slow.run(code));
                break;
            case 1:
                same("outputs", () -> house.outputs(), () -> slow.outputs());
                break;
            case 2:
                same("sorts", () -> bit(house.sorts()), () -> bit(slow.sorts()));
                break;
            case 3:
                same("sorted", () -> house.sorted(), () -> slow.sorted());
                break;
            case 4:
                same("wrong " + place, () -> house.wrong(place), () -> slow.wrong(place));
                break;
            case 5:
                same("finishes " + most, () -> house.finishes(most), () -> slow.finishes(most));
                break;
            case 6:
                same("merges " + wire, () -> bit(house.merges(wire)), () -> bit(slow.merges(wire)));
                break;
            case 7:
                same("chooses " + wire, () -> bit(house.chooses(wire)), () -> bit(slow.chooses(wire)));
                break;
            default:
                same("off", () -> house.off(), () -> slow.off());
                break;
        }
    }

    private static void useSwitchesAndBalancers() {
        int code = code();
        int wire = near(slow.wires);
        switch (below(8)) {
            case 0:
                same("routes", () -> house.routes(), () -> slow.routes());
                break;
            case 1:
                same("setting " + code, () -> house.setting(code), () -> slow.setting(code));
                break;
            case 2:
                same("came " + wire, () -> house.came(wire), () -> slow.came(wire));
                break;
            case 3:
                same("cameAnew " + wire, () -> house.cameAnew(wire), () -> slow.cameAnew(wire));
                break;
            case 4:
                same("isStep", () -> bit(house.isStep()), () -> bit(slow.isStep()));
                break;
            default:
                same("token " + wire, () -> house.token(wire), () -> slow.token(wire));
                break;
        }
    }

    private static void askOfFaults() {
        int c = near(slow.comparators.size());
        int fault = near(3);
        long rows = anyLong() & anyLong() & (oneIn(2) ? anyLong() & anyLong() : -1L);
        switch (below(8)) {
            case 0:
            case 1:
                same("bad " + c + " " + fault, () -> house.bad(c, fault), () -> slow.bad(c, fault));
                break;
            case 2:
            case 3:
                same("tells " + c + " " + fault, () -> house.tells(c, fault), () -> slow.tells(c, fault));
                break;
            case 4:
                same("hidden " + rows, () -> house.hidden(rows), () -> slow.hidden(rows));
                break;
            case 5:
                same("tests", () -> house.tests(), () -> slow.tests());
                break;
            default:
                same("bears", () -> bit(house.bears()), () -> bit(slow.bears()));
                break;
        }
    }

    private static void askOfOrders() {
        int steps = near(4);
        int code = code();
        int far = near(oneIn(3) ? 16 : 5);
        switch (below(3)) {
            case 0:
                same("far " + steps + " " + code, () -> house.far(steps, code), () -> slow.far(steps, code));
                break;
            case 1:
                same("step " + steps + " " + code, () -> house.step(steps, code), () -> slow.step(steps, code));
                break;
            default:
                same("manyFar " + steps + " " + far,
                        () -> house.manyFar(steps, far), () -> slow.manyFar(steps, far));
                break;
        }
    }

    private static void askAdversary() {
        int first = near(slow.wires);
        int other = near(slow.wires);
        switch (below(4)) {
            case 0:
                same("left", () -> house.left(), () -> slow.left());
                break;
            case 1:
                same("needed", () -> house.needed(), () -> slow.needed());
                break;
            default:
                same("ask " + first + " " + other,
                        () -> bit(house.ask(first, other)), () -> bit(slow.ask(first, other)));
                break;
        }
    }

    private static void call(int changes) {
        if (below(100) < changes) {
            changeNetwork();
            return;
        }
        switch (below(7)) {
            case 0:
                askOfNetwork();
                break;
            case 1:
                useTape();
                break;
            case 2:
                askWhatItDoes();
                break;
            case 3:
                useSwitchesAndBalancers();
                break;
            case 4:
                askOfFaults();
                break;
            case 5:
                askOfOrders();
                break;
            default:
                askAdversary();
                break;
        }
    }

    public static void main(String[] args) {
        for (run = 0; run < RUNS; run++) {
            house = new Comparatory();
            slow = new Slow();
            int changes = 3 + 3 * below(10);
            calls = 0;
            while (calls < CALLS) {
                call(changes);
            }
        }
        Due.end();
    }
}
