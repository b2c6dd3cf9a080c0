/** Promises 28 and 29: trains, train. */
public final class TrainTest {
    private static final Check check = new Check();
    private static MechanismHouse house = new MechanismHouse();

    public static void main(String[] args) {
        check.due("trains(1, 1, 4, 4)", house.trains(1, 1, 4, 4), 1);
        train(0, 4, 4, 4, 4);
        check.due("trains(2, 1, 4, 6)", house.trains(2, 1, 4, 6), 0);
        check.due("count(11)", house.count(11), 0);
        check.refuses("train(0, 0) of none", Check.MISSING, () -> house.train(0, 0));
        check.due("trains(3, 2, 4, 6)", house.trains(3, 2, 4, 6), 3);
        train(0, 4, 4, 6, 4);
        train(1, 5, 4, 6, 5);
        train(2, 6, 4, 6, 6);
        check.due("the same by 30 / 20", house.trains(30, 20, 4, 6), 3);
        check.due("turned over", house.trains(2, 3, 4, 6), 3);
        train(0, 4, 4, 4, 6);
        many();
        wrong();
        for (int low = 4; low <= 12; low += 4) {
            oneByOne(1, 1, low, 14);
            oneByOne(5, 7, low, 21);
            oneByOne(22, 9, low, 30);
            oneByOne(10000, 9999, low, 18);
        }
        check.close();
    }

    private static void train(int k, int a, int b, int c, int d) {
        check.due("train(" + k + ", 0)", house.train(k, 0), a);
        check.due("train(" + k + ", 1)", house.train(k, 1), b);
        check.due("train(" + k + ", 2)", house.train(k, 2), c);
        check.due("train(" + k + ", 3)", house.train(k, 3), d);
    }

    private static void many() {
        check.due("all are counted", house.trains(1, 1, 4, 120), 18167);
        check.due("300 are kept", house.count(11), 300);
        train(299, 4, 4, 105, 105);
        check.refuses("the 301st", Check.MISSING, () -> house.train(300, 0));
        check.due("trains(10000, 9999, 4, 120)", house.trains(10000, 9999, 4, 120), 1);
        train(0, 100, 99, 100, 101);
    }

    private static void oneByOne(int p, int q, int low, int high) {
        int all = new MechanismHouse().trains(p, q, low, high);
        int k = 0;
        for (int a = low; a <= high; a++) {
            for (int c = a; c <= high; c++) {
                for (int b = low; b <= high; b++) {
                    for (int d = b; d <= high; d++) {
                        if (a * c * q == b * d * p) {
                            if (k % 100 == 0) {
                                // An object answers 512 calls, no more.
                                house = new MechanismHouse();
                                house.trains(p, q, low, high);
                            }
                            if (k < 300) {
                                train(k, a, b, c, d);
                            }
                            k++;
                        }
                    }
                }
            }
        }
        check.due("trains(" + p + ", " + q + ", " + low + ", " + high + ")", all, k);
    }

    private static void wrong() {
        house.trains(3, 2, 4, 6);
        check.refuses("p 0", Check.BAD, () -> house.trains(0, 1, 4, 6));
        check.refuses("p 10001", Check.BAD, () -> house.trains(10001, 1, 4, 6));
        check.refuses("q 0", Check.BAD, () -> house.trains(1, 0, 4, 6));
        check.refuses("q 10001", Check.BAD, () -> house.trains(1, 10001, 4, 6));
        check.refuses("low 3", Check.BAD, () -> house.trains(1, 1, 3, 6));
        check.refuses("high 121", Check.BAD, () -> house.trains(1, 1, 4, 121));
        check.refuses("low above high", Check.BAD, () -> house.trains(1, 1, 7, 6));
        check.refuses("what 4", Check.BAD, () -> house.train(0, 4));
        check.refuses("what -1", Check.BAD, () -> house.train(9, -1));
        check.refuses("train(-1, 0)", Check.MISSING, () -> house.train(-1, 0));
        check.refuses("train(3, 0)", Check.MISSING, () -> house.train(3, 0));
        check.due("those before stay", house.count(11), 3);
        train(2, 6, 4, 6, 6);
    }
}
