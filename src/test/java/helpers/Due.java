/** Counts answers that are not the due ones, and ends the test with exit code 1 if there was one. */
final class Due {
    interface Call {
        long answer();
    }

    interface Order {
        void carryOut();
    }

    private static int right = 0;
    private static int wrong = 0;

    static void is(String call, long got, long want) {
        if (got == want) {
            right++;
        } else {
            wrong++;
            System.out.println(call + " answered " + got + ", due is " + want);
        }
    }

    static void is(String call, boolean got, boolean want) {
        is(call, got ? 1L : 0L, want ? 1L : 0L);
    }

    static void is(String call, String got, String want) {
        if (got.equals(want)) {
            right++;
        } else {
            wrong++;
            System.out.println(call + " answered \"" + got + "\", due is \"" + want + "\"");
        }
    }

    static void noSuch(String call, Order order) {
        refuses(call, IndexOutOfBoundsException.class, order);
    }

    static void illegal(String call, Order order) {
        refuses(call, IllegalArgumentException.class, order);
    }

    static void badState(String call, Order order) {
        refuses(call, IllegalStateException.class, order);
    }

    /** For a call within its range: whatever it answers, it throws nothing. */
    static void allowed(String call, Order order) {
        is(call, outcome(order), "no exception");
    }

    private static void refuses(String call, Class<?> due, Order order) {
        is(call, outcome(order), due.getName());
    }

    private static String outcome(Order order) {
        try {
            order.carryOut();
            return "no exception";
        } catch (RuntimeException e) {
            return e.getClass().getName();
        }
    }

    /** The answer, or the name of the exception: so that two programs can be compared. */
    static String told(Call call) {
        try {
            return Long.toString(call.answer());
        } catch (RuntimeException e) {
            return "throws." + e.getClass().getName();
        }
    }

    static void end() {
        System.out.println(right + " answers as due, " + wrong + " not");
        if (wrong != 0 || right == 0) {
            System.exit(1);
        }
    }
}
