/** Promises 33 to 37: corner, empty, plate, inside, distance. */
public final class PlateTest {
    private static final Check check = new Check();

    public static void main(String[] args) {
        corners();
        sums();
        crossings();
        insides();
        distances();
        wrong();
        check.close();
    }

    private static void plate(MechanismHouse house, int p, int... xy) {
        house.empty(p);
        for (int k = 0; k < xy.length; k += 2) {
            check.due("corner " + k / 2, house.corner(p, xy[k], xy[k + 1]), k / 2 + 1);
        }
    }

    private static void corners() {
        MechanismHouse house = new MechanismHouse();
        for (int k = 0; k < 24; k++) {
            check.due("corner " + k, house.corner(7, k % 2 == 0 ? 1000 : -1000, -1000), k + 1);
        }
        check.refuses("the 25th", Check.FULL, () -> house.corner(7, 0, 0));
        check.refuses("bad ahead of FULL", Check.BAD, () -> house.corner(7, 1001, 0));
        check.due("another plate", house.corner(0, 0, 0), 1);
        house.empty(7);
        check.refuses("no corners", Check.MISSING, () -> house.plate(7, 0));
        check.due("the first again", house.corner(7, 0, 0), 1);
        check.due("the other stays", house.corner(0, 1, 0), 2);
    }

    private static void all(MechanismHouse house, int p, long... want) {
        for (int what = 0; what < want.length; what++) {
            check.due("plate(" + p + ", " + what + ")", house.plate(p, what), want[what]);
        }
    }

    private static void sums() {
        MechanismHouse house = new MechanismHouse();
        plate(house, 0, 0, 0, 4, 0, 4, 4, 0, 4);
        all(house, 0, 32, 2, 1, 2, 1, 512, 3, -1, -1);
        plate(house, 1, 0, 4, 4, 4, 4, 0, 0, 0);
        all(house, 1, -32, 2, 1, 2, 1, -512, 3, -1, -1);
        plate(house, 2, 0, 0, 1, 0, 0, 1);
        all(house, 2, 1, 1, 3, 1, 3, 1, 6, -1, -1);
        plate(house, 3, -1000, -1000, 1000, -1000, 1000, 1000, -1000, 1000);
        all(house, 3, 8000000, 0, 1, 0, 1, 8000000000000L, 3, -1, -1);
        plate(house, 4, -3, -1, -2, -1, -2, 5);
        all(house, 4, 6, -7, 3, 1, 1);
        plate(house, 5, 0, 0, 1, 1, 2, 2);
        all(house, 5, 0);
        for (int what = 1; what <= 4; what++) {
            final int asked = what;
            check.refuses("plate(5, " + what + ")", Check.MISSING, () -> house.plate(5, asked));
        }
        check.due("second moment of no area", house.plate(5, 5), 0);
        check.due("its q", house.plate(5, 6), 1);
        check.due("three corners never cross", house.plate(5, 7), -1);
    }

    private static void crossings() {
        MechanismHouse house = new MechanismHouse();
        plate(house, 0, 0, 0, 4, 4, 4, 0, 0, 4);
        check.due("i", house.plate(0, 7), 0);
        check.due("j", house.plate(0, 8), 2);
        plate(house, 0, 0, 0, 4, 0, 4, 4, 0, 4, 1, 1, 0, 1);
        check.due("none, i", house.plate(0, 7), -1);
        check.due("none, j", house.plate(0, 8), -1);
        // A corner that stands on another edge.
        plate(house, 0, 0, 0, 4, 0, 4, 4, 2, 0, 0, 4);
        check.due("touched, i", house.plate(0, 7), 0);
        check.due("touched, j", house.plate(0, 8), 2);
        // Edges on one line that share a piece, the first and the last are neighbours.
        plate(house, 0, 0, 0, 6, 0, 6, 2, 2, 2, 2, 0, 0, 0);
        check.due("on one line, i", house.plate(0, 7), 0);
        check.due("on one line, j", house.plate(0, 8), 3);
        // Two corners at one place: an edge without length lies between the others.
        plate(house, 0, 0, 0, 0, 0, 4, 0, 0, 4);
        check.due("no length, i", house.plate(0, 7), 1);
        check.due("no length, j", house.plate(0, 8), 3);
    }

    private static void insides() {
        MechanismHouse house = new MechanismHouse();
        plate(house, 0, 0, 0, 4, 0, 4, 4, 0, 4);
        int[] points = {2, 2, 1, 0, 0, 2, 4, 2, 2, 2, 0, 2, 5, 2, 0, -1, 0, 0, 2, 5, 0, 3, 1, 1, 1000, -1000, 0};
        for (int k = 0; k < points.length; k += 3) {
            check.due("inside(0, " + points[k] + ", " + points[k + 1] + ")",
                    house.inside(0, points[k], points[k + 1]), points[k + 2]);
        }
        plate(house, 1, 0, 4, 4, 4, 4, 0, 0, 0);
        check.due("turned the other way", house.inside(1, 1, 2), 1);
        // A star: its middle is gone round twice.
        plate(house, 2, 0, 10, 6, -8, -10, 3, 10, 3, -6, -8);
        check.due("the star's middle", house.inside(2, 0, 0), 1);
        check.due("between its points", house.inside(2, 0, -7), 0);
        // A bow: one half to the left, one to the right; both are in.
        plate(house, 3, 0, 0, 4, 4, 4, 0, 0, 4);
        check.due("one half", house.inside(3, 1, 2), 1);
        check.due("the other half", house.inside(3, 3, 2), 1);
        check.due("on the crossing", house.inside(3, 2, 2), 2);
        check.due("above", house.inside(3, 2, 3), 0);
        // Gone round once each way: by turns 0.
        plate(house, 4, 0, 0, 4, 0, 4, 4, 0, 4, 0, 0, 0, 4, 4, 4, 4, 0);
        check.due("round and back", house.inside(4, 2, 2), 0);
        plate(house, 5, 1, 1, 1, 1, 1, 1);
        check.due("on a point", house.inside(5, 1, 1), 2);
        check.due("beside it", house.inside(5, 1, 2), 0);
    }

    private static void far(MechanismHouse house, long p, long q) {
        for (int k = 0; k < 2; k++) {
            check.due("distance p", house.distance(k, 1 - k, 0), p);
            check.due("distance q", house.distance(k, 1 - k, 1), q);
        }
    }

    private static void distances() {
        MechanismHouse house = new MechanismHouse();
        plate(house, 0, 0, 0, 4, 0, 4, 4, 0, 4);
        plate(house, 1, 7, 8, 9, 8, 9, 12);
        far(house, 25, 1);
        plate(house, 1, 10, 0, 10, 10, 0, 10);
        far(house, 2, 1);
        plate(house, 1, 20, 0, 20, 20, 0, 10);
        far(house, 64, 5);
        plate(house, 1, 4, 1, 9, 1, 9, 3);
        far(house, 0, 1);
        plate(house, 1, 4, 4, 9, 4, 9, 9);
        far(house, 0, 1);
        plate(house, 1, 1, 1, 3, 1, 3, 3);
        far(house, 0, 1);
        plate(house, 1, -9, -9, 99, -9, 99, 99, -9, 99);
        far(house, 0, 1);
        plate(house, 1, 6, 2, 6, 2, 6, 2);
        far(house, 4, 1);
        // A point that comes in by one edge, and not with the first corner.
        plate(house, 1, 5, -5, 2, 1, -1, -5);
        far(house, 0, 1);
        // A corner, not the first, touches an edge from without.
        plate(house, 1, 5, -5, 2, 0, -1, -5);
        far(house, 0, 1);
        plate(house, 1, 5, 9, 2, 4, -1, 9);
        far(house, 0, 1);
        plate(house, 1, -5, 5, 0, 2, -5, -1);
        far(house, 0, 1);
        // One in the other, near its slanted edges.
        plate(house, 0, 0, 0, 30, 1, 29, 29);
        plate(house, 1, 20, 10, 25, 24, 24, 22);
        far(house, 0, 1);
        plate(house, 1, 25, 24, 20, 10, 3, 1);
        far(house, 0, 1);
        plate(house, 0, -1000, -1000, -999, -1000, -1000, -999);
        plate(house, 1, 1000, 999, 999, 1000, 1000, 1000);
        far(house, 2 * 1999 * 1999, 1);
        plate(house, 0, -1000, 1000, -1000, 999, 999, -1000);
        plate(house, 1, 1000, -999, 1000, 1000, 999, 1000);
        far(house, 3999 * 3999, 1999 * 1999 + 2000 * 2000);
        plate(house, 7, 0, 0, 4, 0, 4, 4, 0, 4);
        plate(house, 6, 6, 0, 6, 4, 9, 9);
        check.due("of 7 and 6", house.distance(7, 6, 0), 4);
        check.due("of 6 and 7", house.distance(6, 7, 1), 1);
        check.due("area of 7", house.plate(7, 0), 32);
        check.due("inside of 7", house.inside(7, 1, 1), 1);
        check.due("of a plate and itself", house.distance(0, 0, 0), 0);
        check.due("of a plate and itself", house.distance(0, 0, 1), 1);
    }

    private static void wrong() {
        MechanismHouse house = new MechanismHouse();
        check.refuses("corner p", Check.BAD, () -> house.corner(8, 0, 0));
        check.refuses("corner p", Check.BAD, () -> house.corner(-1, 0, 0));
        check.refuses("corner x", Check.BAD, () -> house.corner(0, -1001, 0));
        check.refuses("corner x", Check.BAD, () -> house.corner(0, 1001, 0));
        check.refuses("corner y", Check.BAD, () -> house.corner(0, 0, 1001));
        check.refuses("corner y", Check.BAD, () -> house.corner(0, 0, -1001));
        check.refuses("empty p", Check.BAD, () -> house.empty(8));
        check.refuses("empty p", Check.BAD, () -> house.empty(-1));
        check.refuses("plate p", Check.BAD, () -> house.plate(8, 0));
        check.refuses("plate what", Check.BAD, () -> house.plate(0, 9));
        check.refuses("plate what", Check.BAD, () -> house.plate(0, -1));
        check.refuses("inside p", Check.BAD, () -> house.inside(-1, 0, 0));
        check.refuses("inside x", Check.BAD, () -> house.inside(0, 1001, 0));
        check.refuses("inside p", Check.BAD, () -> house.inside(8, 0, 0));
        check.refuses("inside x", Check.BAD, () -> house.inside(0, -1001, 0));
        check.refuses("inside y", Check.BAD, () -> house.inside(0, 0, 1001));
        check.refuses("inside y", Check.BAD, () -> house.inside(0, 0, -1001));
        check.refuses("distance p", Check.BAD, () -> house.distance(8, 0, 0));
        check.refuses("distance q", Check.BAD, () -> house.distance(0, -1, 0));
        check.refuses("distance what", Check.BAD, () -> house.distance(0, 0, 2));
        plate(house, 0, 0, 0, 1, 0);
        plate(house, 1, 0, 0, 1, 0, 0, 1);
        check.refuses("plate of two", Check.MISSING, () -> house.plate(0, 7));
        check.refuses("inside of two", Check.MISSING, () -> house.inside(0, 0, 0));
        check.refuses("distance of two", Check.MISSING, () -> house.distance(0, 1, 0));
        check.refuses("distance to two", Check.MISSING, () -> house.distance(1, 0, 0));
    }
}
