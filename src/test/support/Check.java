/** What the tests share: a count of wrong answers, and INPUT fed as a text. */
final class Check {
    static final Class<IllegalArgumentException> BAD = IllegalArgumentException.class;
    static final Class<java.util.NoSuchElementException> MISSING = java.util.NoSuchElementException.class;
    static final Class<IllegalStateException> REFUSED = IllegalStateException.class;
    static final Class<IndexOutOfBoundsException> FULL = IndexOutOfBoundsException.class;
    static final Class<UnsupportedOperationException> FAULT = UnsupportedOperationException.class;

    interface Call {
        void run();
    }

    interface NumberCall {
        void run(int n);
    }

    private int wrong;

    void due(String call, long got, long want) {
        if (got != want) {
            wrong++;
            System.out.println(call + " answered " + got + ", due is " + want);
        }
    }

    void refuses(String call, Class<? extends RuntimeException> want, Call run) {
        String got = "nothing";
        try {
            run.run();
        } catch (RuntimeException e) {
            got = e.getClass().getName();
        }
        if (!got.equals(want.getName())) {
            wrong++;
            System.out.println(call + " threw " + got + ", due is " + want.getName());
        }
    }

    void good(String call, Call run) {
        try {
            run.run();
        } catch (RuntimeException e) {
            wrong++;
            System.out.println(call + " threw " + e.getClass().getName() + ", due is no exception");
        }
    }

    /** The two ends of a range are good; the numbers next to them and the farthest ones are bad. */
    void range(String call, int low, int high, NumberCall run) {
        good(call + " with " + low, () -> run.run(low));
        good(call + " with " + high, () -> run.run(high));
        outside(call, low, high, BAD, run);
    }

    /** The numbers next to a range, and the farthest ones, are refused. */
    void outside(String call, int low, int high, Class<? extends RuntimeException> want, NumberCall run) {
        int[] beside = {low - 1, high + 1, Integer.MIN_VALUE, Integer.MAX_VALUE};
        for (int k = 0; k < beside.length; k++) {
            final int n = beside[k];
            refuses(call + " with " + n, want, () -> run.run(n));
        }
    }

    /** INPUT becomes these characters, one byte each. */
    static void type(MechanismHouse house, String text) {
        house.end(0);
        int length = text.length();
        int[] fours = new int[5];
        for (int at = 0; at < length; at += 20) {
            for (int k = 0; k < 20; k++) {
                int c = at + k < length ? text.charAt(at + k) : 32;
                fours[k / 4] = fours[k / 4] << 8 | c;
            }
            house.feed(fours[0], fours[1], fours[2], fours[3], fours[4]);
        }
        house.end(length);
    }

    static MechanismHouse linked(String text) {
        MechanismHouse house = new MechanismHouse();
        type(house, text);
        house.linkage();
        return house;
    }

    /** A text that has a FAULT: which one, and where; INPUT is empty behind it. */
    void faulty(String text, int number, int place, MechanismHouse house, Call read) {
        type(house, text);
        refuses("reading " + text, FAULT, read);
        due("fault(0) of " + text, house.fault(0), number);
        due("fault(1) of " + text, house.fault(1), place);
        due("count(10) behind " + text, house.count(10), 0);
    }

    void close() {
        if (wrong > 0) {
            System.out.println(wrong + " wrong");
            System.exit(1);
        }
    }
}
