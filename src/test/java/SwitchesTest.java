/** Promises 25 to 30: the same wires as switches that route, and as balancers that count. */
public final class SwitchesTest {
    public static void main(String[] args) {
        promise25();
        promise26();
        promise26Lowest();
        whatCanComeOutChanges();
        promise27();
        promise27Limits();
        promise28();
        promise29();
        promise30();
        Due.end();
    }

    private static void promise25() {
        Due.is("25: none there", Houses.of(6).routes(), 1);
        Due.is("25: one", Houses.with(6, "25").routes(), 2);
        Due.is("25: the same again", Houses.with(2, "010110").routes(), 2);
        Due.is("25: two apart", Houses.with(4, "0123").routes(), 4);
        Due.is("25: two at a wire", Houses.with(3, "0112").routes(), 4);
        Due.is("25: all of 3", Houses.with(3, "011201").routes(), 6);
        Due.is("25: one pass of 6", Houses.with(6, "0112233445").routes(), 32);
        Due.is("25: all of 4", Houses.made(4, 0).routes(), 24);
        Due.is("25: all of 6", Houses.made(6, 1).routes(), 720);
        Due.is("25: turned ones as well", Houses.with(3, "102110").routes(), 6);
        Due.is("25: 24 of them", Houses.full(6).routes(), 2);
    }

    private static void promise26() {
        Comparatory house = Houses.with(3, "0112");
        Due.is("26: as it went in", house.setting(210), 0);
        Due.is("26: the first changes", house.setting(201), 1);
        Due.is("26: the last changes", house.setting(120), 2);
        Due.is("26: both change", house.setting(21), 3);
        Due.is("26: cannot", house.setting(102), -1);
        Due.is("26: cannot", house.setting(12), -1);
        Due.is("26: none there", Houses.of(2).setting(10), 0);
        Due.is("26: none there", Houses.of(2).setting(1), -1);
        for (int code : new int[] {0, 110, 3210, -210, 10, Integer.MAX_VALUE, Integer.MIN_VALUE}) {
            Due.illegal("26: code " + code, () -> house.setting(code));
        }
    }

    private static void promise26Lowest() {
        Due.is("26: the lowest of 1 and 2", Houses.with(2, "0101").setting(1), 1);
        Due.is("26: the lowest of 24", Houses.full(6).setting(543201), 1);
        Due.is("26: none of 24", Houses.full(6).setting(543210), 0);
        Comparatory last = Houses.full(3);
        last.take();
        last.add(2, 1);
        Due.is("26: the last one of 24", last.setting(120), 1 << 23);
        Due.is("26: the last one and the first", last.setting(21), 1 << 23 | 1);
        Comparatory twice = Houses.with(3, "01120112");
        Due.is("26: by the lower ones", twice.setting(120), 2);
        Due.is("26: by three", twice.setting(12), 7);
        Due.is("26: not 8 or more", twice.setting(102), 6);
    }

    /** routes() and setting() keep up with each call that changes the comparators. */
    private static void whatCanComeOutChanges() {
        Comparatory house = Houses.with(3, "01");
        Due.is("25: at first", house.routes(), 2);
        house.add(1, 2);
        Due.is("25: behind add", house.routes(), 4);
        Due.is("26: behind add", house.setting(21), 3);
        house.mirror();
        Due.is("26: behind mirror", house.setting(21), -1);
        Due.is("26: behind mirror", house.setting(102), 3);
        house.take();
        Due.is("25: behind take", house.routes(), 2);
        house.make(0);
        Due.is("25: behind make", house.routes(), 6);
        house.network(3);
        Due.is("25: behind network", house.routes(), 1);
        Houses.typeAnew(house, "2:1/0:1/1:2");
        house.build();
        Due.is("25: behind build", house.routes(), 6);
        Due.is("26: behind build", house.setting(102), 3);
        house.untangle();
        Due.is("25: behind untangle", house.routes(), 6);
        Due.is("26: behind untangle", house.setting(102), 6);
        Comparatory dead = Houses.with(3, "0101");
        Due.is("26: ahead of prune", dead.setting(201), 1);
        dead.add(1, 2);
        dead.add(0, 2);
        Due.is("25: ahead of prune", dead.routes(), 6);
        dead.prune();
        Due.is("25: behind prune", dead.routes(), 4);
    }

    private static void promise27() {
        Comparatory none = Houses.of(3);
        Due.is("27: straight on", none.token(2), 2);
        Comparatory house = Houses.with(2, "01");
        int[] out = {0, 1, 0, 1};
        for (int each : out) {
            Due.is("27: in turn", house.token(1), each);
        }
        Due.is("27: wherever it comes", house.token(0), 0);
        Due.is("27: wherever it comes", house.token(0), 1);
        Comparatory turned = Houses.with(3, "2001");
        Due.is("27: first wire first", turned.token(2), 2);
        Due.is("27: then the other one, and on", turned.token(2), 0);
        Due.is("27: back", turned.token(0), 2);
        Due.is("27: on to the next one's other wire", turned.token(0), 1);
        Due.is("27: not at the first one", turned.token(1), 0);
        Comparatory later = Houses.with(3, "1201");
        Due.is("27: a wire's earlier ones are past", later.token(0), 0);
        Due.is("27: then on 1, behind 1 and 2", later.token(0), 1);
        Due.is("27: that one had none yet", later.token(2), 0);
    }

    private static void promise27Limits() {
        Comparatory house = Houses.with(2, "01");
        Due.noSuch("27: no wire", () -> house.token(2));
        Due.noSuch("27: below", () -> house.token(-1));
        Due.noSuch("27: extreme", () -> house.token(Integer.MIN_VALUE));
        Due.is("27: none came", house.came(0) + house.came(1), 0);
        for (int i = 0; i < 1000; i++) {
            house.token(i % 2);
        }
        Due.badState("27: 1000 came", () -> house.token(0));
        Due.noSuch("27: no wire, and 1000 came", () -> house.token(5));
        Due.is("27: 500 each", house.came(0), 500);
        house.mirror();
        Due.is("27: forgotten", house.token(0), 0);
        Comparatory fresh = new Comparatory();
        for (int i = 0; i < 999; i++) {
            fresh.token(0);
        }
        Due.is("27: the 1000th", fresh.token(1), 1);
        Due.badState("27: no 1001st", () -> fresh.token(1));
    }

    private static void promise28() {
        Comparatory house = Houses.with(3, "01");
        house.token(0);
        house.token(0);
        house.token(0);
        house.token(2);
        Due.is("28: on 0", house.came(0), 2);
        Due.is("28: on 1", house.came(1), 1);
        Due.is("28: on 2", house.came(2), 1);
        Due.noSuch("28: no wire", () -> house.came(3));
        Due.noSuch("28: below", () -> house.came(-1));
        Due.noSuch("28: extreme", () -> house.came(Integer.MAX_VALUE));
        Due.is("28: none came", Houses.of(6).came(5), 0);
    }

    private static void promise29() {
        Comparatory house = Houses.with(4, "300112");
        int[] tokens = {3, 3, 0, 2, 1, 3, 3, 0, 3};
        for (int wire : tokens) {
            house.token(wire);
            for (int each = 0; each < 4; each++) {
                Due.is("29: the same", house.cameAnew(each), house.came(each));
            }
        }
        Comparatory two = Houses.with(2, "10");
        two.token(0);
        two.token(0);
        two.token(0);
        Due.is("29: the first wire has one more", two.cameAnew(1), 2);
        Due.is("29: the other one less", two.cameAnew(0), 1);
        Due.noSuch("29: no wire", () -> two.cameAnew(2));
        Due.noSuch("29: below", () -> two.cameAnew(-1));
        Due.is("29: none came", Houses.made(6, 0).cameAnew(3), 0);
    }

    private static void promise30() {
        Comparatory none = Houses.of(2);
        Due.is("30: none came", none.isStep(), true);
        int[] tokens = {0, 0, 1, 1, 1};
        boolean[] due = {true, false, true, true, false};
        for (int i = 0; i < tokens.length; i++) {
            none.token(tokens[i]);
            Due.is("30: " + none.came(0) + " and " + none.came(1), none.isStep(), due[i]);
        }
        Comparatory three = Houses.of(3);
        three.token(0);
        three.token(2);
        Due.is("30: 1 0 1", three.isStep(), false);
        three.token(1);
        Due.is("30: 1 1 1", three.isStep(), true);
        three.token(0);
        three.token(1);
        three.token(0);
        Due.is("30: 3 2 1", three.isStep(), false);
        Comparatory turned = Houses.with(2, "10");
        turned.token(0);
        Due.is("30: the first came on 1", turned.isStep(), false);
        Comparatory counts = Houses.with(4, "01230312" + "0123");
        for (int i = 0; i < 40; i++) {
            counts.token(i * i % 7 % 4);
            Due.is("30: a network that counts", counts.isStep(), true);
        }
    }
}
