/** Promises 38 and 39: kinds, kind. */
public final class KindTest {
    private static final Check check = new Check();
    private static final MechanismHouse house = new MechanismHouse();

    public static void main(String[] args) {
        kinds(3, 3, 7);
        kinds(3, 2);
        kinds(4, 3);
        kinds(4, 4, 51);
        kinds(4, 5, 62);
        kinds(4, 6, 63);
        kinds(4, 7);
        kinds(5, 4);
        kinds(5, 5, 787);
        kinds(5, 6, 993, 937, 907);
        kinds(5, 7);
        kinds(6, 5);
        kinds(6, 6, 24851);
        kinds(6, 7, 31235, 29315, 29191, 28882, 28819);
        kinds(6, 8, 31302, 31299, 30795, 29326, 29319, 28892);
        kinds(6, 9, 29327, 28894);
        kinds(6, 10);
        kinds(6, 15);
        kinds(3, 0);
        wrong();
        check.close();
    }

    private static void kinds(int n, int j, int... want) {
        check.due("kinds(" + n + ", " + j + ")", house.kinds(n, j), want.length);
        check.due("count(12)", house.count(12), want.length);
        for (int k = 0; k < want.length; k++) {
            check.due("kind(" + k + ") of " + n + ", " + j, house.kind(k), want[k]);
        }
        check.refuses("kind behind the last", Check.MISSING, () -> house.kind(want.length));
        check.refuses("kind(-1)", Check.MISSING, () -> house.kind(-1));
    }

    private static void wrong() {
        house.kinds(5, 6);
        check.refuses("n 2", Check.BAD, () -> house.kinds(2, 3));
        check.refuses("n 7", Check.BAD, () -> house.kinds(7, 3));
        check.refuses("j -1", Check.BAD, () -> house.kinds(4, -1));
        check.refuses("j 16", Check.BAD, () -> house.kinds(6, 16));
        check.due("those before stay", house.kind(2), 907);
        check.due("count(12) stays", house.count(12), 3);
    }
}
