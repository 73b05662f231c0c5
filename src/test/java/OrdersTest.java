/** Promises 36 to 38: how far rows are by swaps, changes, flips and blocks. */
public final class OrdersTest {
    private static final int[][] OF_SIX = {
        {1, 5, 14, 29, 49, 71, 90, 101, 101, 90, 71, 49, 29, 14, 5, 1},
        {1, 15, 85, 225, 274, 120},
        {1, 5, 20, 79, 199, 281, 133, 2},
        {1, 35, 259, 380, 45}
    };
    private static final int[][] OF_FIVE = {
        {1, 4, 9, 15, 20, 22, 20, 15, 9, 4, 1},
        {1, 10, 35, 50, 24},
        {1, 4, 12, 35, 48, 20},
        {1, 20, 68, 31}
    };

    public static void main(String[] args) {
        promise36();
        promise37();
        promise37Lowest();
        promise38();
        ofAllRows();
        refusals();
        Due.end();
    }

    private static void far(int wires, int code, int swaps, int changes, int flips, int blocks) {
        Comparatory house = Houses.of(wires);
        int[] due = {swaps, changes, flips, blocks};
        for (int steps = 0; steps < 4; steps++) {
            Due.is("36: far " + steps + " " + code, house.far(steps, code), due[steps]);
        }
    }

    private static void promise36() {
        far(2, 10, 0, 0, 0, 0);
        far(2, 1, 1, 1, 1, 1);
        far(3, 12, 3, 1, 1, 2);
        far(3, 120, 1, 1, 3, 1);
        far(3, 201, 1, 1, 1, 1);
        far(3, 21, 2, 2, 2, 1);
        far(4, 123, 6, 2, 1, 3);
        far(4, 1032, 4, 2, 3, 1);
        far(6, 543210, 0, 0, 0, 0);
        far(6, 12345, 15, 3, 1, 4);
        far(6, 435210, 2, 2, 4, 1);
        far(6, 54321, 5, 5, 2, 1);
    }

    private static void promise37() {
        for (int steps = 0; steps < 4; steps++) {
            Due.is("37: sorted", Houses.of(2).step(steps, 10), -1);
            Due.is("37: sorted", Houses.of(6).step(steps, 543210), -1);
            Due.is("37: two wires", Houses.of(2).step(steps, 1), 10);
        }
        Comparatory three = Houses.of(3);
        Due.is("37: swaps", three.step(0, 12), 21);
        Due.is("37: changes", three.step(1, 12), 210);
        Due.is("37: flips", three.step(2, 120), 21);
        Due.is("37: flips, by the only way", three.step(2, 21), 12);
        Due.is("37: blocks", three.step(3, 21), 210);
    }

    private static void promise37Lowest() {
        Comparatory six = Houses.of(6);
        Due.is("37: the lowest swap", six.step(0, 12345), 12354);
        Due.is("37: the lowest change", six.step(1, 12345), 13245);
        Due.is("37: the whole flip", six.step(2, 12345), 543210);
        for (int steps = 0; steps < 4; steps++) {
            int code = 402513;
            int far = six.far(steps, code);
            for (int left = far - 1; left >= 0; left--) {
                code = six.step(steps, code);
                Due.is("37: one less far", six.far(steps, code), left);
            }
            Due.is("37: sorted at last", code, 543210);
        }
    }

    private static void promise38() {
        for (int steps = 0; steps < 4; steps++) {
            all(6, steps, OF_SIX[steps]);
            all(5, steps, OF_FIVE[steps]);
            all(2, steps, new int[] {1, 1});
        }
        all(3, 0, new int[] {1, 2, 2, 1});
        all(3, 1, new int[] {1, 3, 2});
        all(3, 2, new int[] {1, 2, 2, 1});
        all(3, 3, new int[] {1, 4, 1});
        all(4, 0, new int[] {1, 3, 5, 6, 5, 3, 1});
        all(4, 1, new int[] {1, 6, 11, 6});
        all(4, 2, new int[] {1, 3, 6, 11, 3});
        all(4, 3, new int[] {1, 10, 12, 1});
        Due.is("38: too far", Houses.of(6).manyFar(0, Integer.MAX_VALUE), 0);
    }

    private static void all(int wires, int steps, int[] due) {
        Comparatory house = Houses.of(wires);
        for (int far = 0; far < due.length + 3; far++) {
            int many = far < due.length ? due[far] : 0;
            Due.is("38: " + wires + " wires, steps " + steps + ", far " + far, house.manyFar(steps, far), many);
        }
    }

    /** Every row by every kind of steps, on houses that were asked of other numbers of wires before. */
    private static void ofAllRows() {
        Comparatory house = new Comparatory();
        int calls = 0;
        for (int wires = 2; wires <= 6; wires++) {
            for (int steps = 3; steps >= 0; steps--) {
                for (int[] row : Slow.rows(wires)) {
                    int code = Slow.code(row);
                    if (calls == 0) {
                        house = askedBefore();
                        house.network(wires);
                    }
                    calls = (calls + 1) % 200;
                    Slow slow = new Slow();
                    slow.network(wires);
                    Due.is("36: far " + steps + " " + code, house.far(steps, code), Slow.fars(steps, wires).get(code));
                    Due.is("37: step " + steps + " " + code, house.step(steps, code), slow.step(steps, code));
                }
            }
            calls = 0;
        }
    }

    private static Comparatory askedBefore() {
        Comparatory house = new Comparatory();
        for (int wires = 6; wires >= 2; wires--) {
            house.network(wires);
            for (int steps = 0; steps < 4; steps++) {
                house.manyFar(steps, 2);
            }
        }
        return house;
    }

    private static void refusals() {
        Comparatory house = Houses.of(4);
        for (int steps : new int[] {Integer.MIN_VALUE, -1, 4, Integer.MAX_VALUE}) {
            Due.illegal("36: steps " + steps, () -> house.far(steps, 3210));
            Due.illegal("37: steps " + steps, () -> house.step(steps, 3210));
            Due.illegal("38: steps " + steps, () -> house.manyFar(steps, 0));
        }
        for (int code : new int[] {Integer.MIN_VALUE, -1, 0, 124, 210, 3211, 43210, Integer.MAX_VALUE}) {
            Due.illegal("36: code " + code, () -> house.far(0, code));
            Due.illegal("37: code " + code, () -> house.step(3, code));
        }
        Due.illegal("38: far below 0", () -> house.manyFar(0, -1));
        Due.illegal("38: far below 0", () -> house.manyFar(3, Integer.MIN_VALUE));
    }
}
