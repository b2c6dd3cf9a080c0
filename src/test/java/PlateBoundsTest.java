/**
 * The boundary sentences on PLATES and of promises 33 to 37: corner, empty, plate, inside, distance. Above each test
 * stands the sentence that it holds.
 */
public final class PlateBoundsTest {
    private static final Check check = new Check();

    public static void main(String[] args) {
        cornerRange();
        cornersAreFull();
        emptyRange();
        plateRange();
        fewerThanThree();
        areaOfNothing();
        signStays();
        greatest();
        nextCorner();
        crossedNone();
        crossedNeighbours();
        crossedLeast();
        insideRange();
        insideOnAnEdge();
        insideByTurns();
        distanceRange();
        distanceInCommon();
        distanceWithin();
        distanceToAnEdge();
        check.close();
    }

    private static void plate(MechanismHouse house, int p, int... xy) {
        house.empty(p);
        for (int k = 0; k < xy.length; k += 2) {
            check.due("corner " + k / 2, house.corner(p, xy[k], xy[k + 1]), k / 2 + 1);
        }
    }

    private static MechanismHouse square() {
        MechanismHouse house = new MechanismHouse();
        plate(house, 0, 0, 0, 4, 0, 4, 4, 0, 4);
        return house;
    }

    /** "at most 8 with .. corners (-1,000 .. 1,000 whole each)" and "Bad". */
    private static void cornerRange() {
        MechanismHouse house = new MechanismHouse();
        check.range("corner p", 0, 7, p -> house.corner(p, 0, 0));
        check.range("corner x", -1000, 1000, x -> house.corner(1, x, 0));
        check.range("corner y", -1000, 1000, y -> house.corner(2, 0, y));
        check.due("those that were good", house.corner(1, 0, 0), 3);
        check.due("those that were good", house.corner(2, 0, 0), 3);
        check.due("the others have none", house.corner(3, 0, 0), 1);
    }

    /** "at most 24 corners" and "A corner more of PLATE p: how many. .. FULL." */
    private static void cornersAreFull() {
        MechanismHouse house = new MechanismHouse();
        for (int p = 0; p < 8; p++) {
            final int plate = p;
            for (int k = 1; k <= 24; k++) {
                check.due("how many", house.corner(p, k <= 12 ? k : 25 - k, k <= 12 ? 0 : p + 1), k);
            }
            check.refuses("the 25th", Check.FULL, () -> house.corner(plate, 0, 0));
        }
        check.refuses("bad ahead of FULL", Check.BAD, () -> house.corner(7, 0, 1001));
        for (int p = 0; p < 8; p++) {
            check.due("24 corners' area", house.plate(p, 0), 2 * 11 * (p + 1));
        }
        house.empty(7);
        check.due("there is room again", house.corner(7, 0, 0), 1);
        check.due("not in the others", house.plate(6, 0), 2 * 11 * 7);
    }

    /** "PLATE p's corners go. Bad." */
    private static void emptyRange() {
        MechanismHouse house = square();
        check.range("empty p", 0, 7, p -> house.empty(p));
        check.due("none left", house.corner(0, 0, 0), 1);
        check.good("one of none", () -> house.empty(5));
        MechanismHouse two = square();
        plate(two, 1, 0, 0, 1, 0, 0, 1);
        two.empty(0);
        check.refuses("it went", Check.MISSING, () -> two.plate(0, 0));
        check.due("the other stays", two.plate(1, 0), 1);
    }

    /** "what 0 twice the area, .. 7, 8 CROSSED's i, j (-1: none). Bad". */
    private static void plateRange() {
        MechanismHouse house = square();
        check.range("plate what", 0, 8, what -> house.plate(0, what));
        check.outside("plate p", 0, 7, Check.BAD, p -> house.plate(p, 0));
        plate(house, 7, 0, 0, 1, 0, 0, 1);
        check.due("PLATE 7", house.plate(7, 0), 1);
    }

    /** "missing: fewer than 3 corners": of plate, inside and distance; 3 are enough. */
    private static void fewerThanThree() {
        MechanismHouse house = square();
        for (int corners = 0; corners < 3; corners++) {
            for (int what = 0; what <= 8; what++) {
                final int asked = what;
                check.refuses("plate of " + corners, Check.MISSING, () -> house.plate(3, asked));
            }
            check.refuses("inside of " + corners, Check.MISSING, () -> house.inside(3, 0, 0));
            check.refuses("distance of " + corners, Check.MISSING, () -> house.distance(3, 0, 0));
            check.refuses("distance to " + corners, Check.MISSING, () -> house.distance(0, 3, 1));
            check.refuses("distance to itself", Check.MISSING, () -> house.distance(3, 3, 0));
            house.corner(3, corners, corners * corners);
        }
        check.good("plate of 3", () -> house.plate(3, 0));
        check.good("inside of 3", () -> house.inside(3, 0, 0));
        check.good("distance of 3", () -> house.distance(3, 0, 0));
        check.good("distance to 3", () -> house.distance(0, 3, 0));
    }

    /** "(area 0: missing)" and "area 0 (1 .. 4)": the others are told. */
    private static void areaOfNothing() {
        MechanismHouse house = new MechanismHouse();
        plate(house, 0, 1, 1, 2, 2, 3, 3);
        plate(house, 1, 5, 5, 5, 5, 5, 5);
        // A bow whose halves are alike: nothing in all.
        plate(house, 2, 0, 0, 4, 4, 4, 0, 0, 4);
        for (int p = 0; p < 3; p++) {
            final int plate = p;
            check.due("area", house.plate(p, 0), 0);
            for (int what = 1; what <= 4; what++) {
                final int asked = what;
                check.refuses("middle", Check.MISSING, () -> house.plate(plate, asked));
            }
            check.good("second moment's p", () -> house.plate(plate, 5));
            check.good("second moment's q", () -> house.plate(plate, 6));
            check.due("CROSSED", house.plate(p, 7), p == 2 ? 0 : -1);
        }
        check.due("second moment of a line", house.plate(0, 5), 0);
        check.due("its q", house.plate(0, 6), 1);
        // Twice the area 1 is enough.
        plate(house, 3, 0, 0, 1, 0, 0, 1);
        check.good("the least area", () -> house.plate(3, 1));
    }

    /** "Twice the area .. (.. its sign stays)"; FRACTIONS have q above 0. */
    private static void signStays() {
        MechanismHouse house = new MechanismHouse();
        plate(house, 0, 0, 0, 3, 0, 0, 3);
        plate(house, 1, 0, 3, 3, 0, 0, 0);
        plate(house, 2, 0, 0, -3, 0, 0, -3);
        long[][] want = {{9, 1, 1, 1, 1, 27, 2}, {-9, 1, 1, 1, 1, -27, 2}, {9, -1, 1, -1, 1, 27, 2}};
        for (int p = 0; p < 3; p++) {
            for (int what = 0; what < 7; what++) {
                check.due("plate(" + p + ", " + what + ")", house.plate(p, what), want[p][what]);
            }
        }
    }

    /** "corners (-1,000 .. 1,000 whole each)": sums over the greatest ones. */
    private static void greatest() {
        MechanismHouse house = new MechanismHouse();
        for (int k = 0; k < 24; k++) {
            boolean right = k % 4 == 1 || k % 4 == 2;
            house.corner(0, right ? 1000 : -1000, k % 4 >= 2 ? 1000 : -1000);
        }
        check.due("six times round", house.plate(0, 0), 6 * 8000000);
        check.due("its middle", house.plate(0, 1), 0);
        check.due("its middle's q", house.plate(0, 2), 1);
        check.due("its second moment", house.plate(0, 5), 6 * 8000000000000L / 3);
        check.due("its q", house.plate(0, 6), 1);
        check.due("the middle is in", house.inside(0, 0, 0), 1);
        plate(house, 1, 1000, 1000, 999, 1000, 1000, 999);
        check.due("middle's p", house.plate(1, 1), 2999);
        check.due("middle's q", house.plate(1, 2), 3);
    }

    /** "corner to next, the last to the first". */
    private static void nextCorner() {
        MechanismHouse house = square();
        check.due("inside by the last edge", house.inside(0, 0, 2), 2);
        check.due("beside it", house.inside(0, -1, 2), 0);
        plate(house, 1, 10, 10, 20, 10, 20, 20);
        check.due("area off the origin", house.plate(1, 0), 100);
        check.due("on its last edge", house.inside(1, 15, 15), 2);
    }

    /** "(-1: none)". */
    private static void crossedNone() {
        MechanismHouse house = square();
        check.due("i", house.plate(0, 7), -1);
        check.due("j", house.plate(0, 8), -1);
        // Apart by one: the edges 0 and 2 come near each other and don't touch.
        plate(house, 1, 0, 0, 9, 0, 9, 1, 0, 1);
        check.due("near", house.plate(1, 7), -1);
        // On one line, but apart.
        plate(house, 2, 0, 0, 2, 0, 2, 2, 3, 2, 3, 0, 5, 0, 5, 5, 0, 5);
        check.due("on one line", house.plate(2, 8), -1);
    }

    /** "edges i < j that aren't neighbours (the last and the first are)". */
    private static void crossedNeighbours() {
        MechanismHouse house = new MechanismHouse();
        // Three edges are all neighbours, whatever they do.
        plate(house, 0, 0, 0, 4, 0, 2, 0);
        check.due("three on a line", house.plate(0, 7), -1);
        check.due("three on a line", house.plate(0, 8), -1);
        // 1 and 2 go back over each other, but are neighbours; 3 begins on 1.
        plate(house, 1, 0, 0, 4, 0, 4, 4, 4, 1, 0, 1);
        check.due("back over itself, i", house.plate(1, 7), 1);
        check.due("back over itself, j", house.plate(1, 8), 3);
        plate(house, 1, 0, 0, 4, 0, 4, 4, 2, 0, 2, 2);
        check.due("touched by 2 and 3", house.plate(1, 7), 0);
        check.due("the least j", house.plate(1, 8), 2);
        // The last goes over the first, its neighbour; and over the end of 1.
        plate(house, 1, 0, 0, 4, 0, 4, 4, 6, 0);
        check.due("the last over the first, i", house.plate(1, 7), 1);
        check.due("the last over the first, j", house.plate(1, 8), 3);
    }

    /** "the least i, then j .. have a point in common". */
    private static void crossedLeast() {
        MechanismHouse house = new MechanismHouse();
        // A star of five: each edge crosses the two that aren't its neighbours.
        plate(house, 0, 0, 10, 6, -8, -10, 3, 10, 3, -6, -8);
        check.due("i", house.plate(0, 7), 0);
        check.due("j", house.plate(0, 8), 2);
        // Only edges 1 and 4 cross.
        plate(house, 1, 0, 0, 4, 0, 0, 4, 0, 6, 4, 6, 1, 1);
        check.due("i", house.plate(1, 7), 1);
        check.due("j", house.plate(1, 8), 4);
        // The least bow: each end is next to the other edge's line. From each of its corners, both ways round.
        int[] bow = {0, 0, 1, 1, 1, 0, 0, 1};
        for (int first = 0; first < 4; first++) {
            for (int way = 1; way <= 3; way += 2) {
                house.empty(4);
                for (int k = 0; k < 4; k++) {
                    int corner = (first + way * k) % 4;
                    house.corner(4, bow[2 * corner], bow[2 * corner + 1]);
                }
                check.due("the least bow, i", house.plate(4, 7), (first + way / 3) % 2);
                check.due("the least bow, j", house.plate(4, 8), (first + way / 3) % 2 + 2);
            }
        }
        // A corner on an edge, an end on an end.
        plate(house, 2, 0, 0, 8, 0, 8, 8, 4, 0, 0, 8);
        check.due("a corner on an edge, i", house.plate(2, 7), 0);
        check.due("a corner on an edge, j", house.plate(2, 8), 2);
        plate(house, 3, 0, 0, 4, 0, 4, 4, 0, 0, -4, 0, -4, -4);
        check.due("an end on an end, i", house.plate(3, 7), 0);
        check.due("an end on an end, j", house.plate(3, 8), 2);
    }

    /** "INSIDE of PLATE p (x, y -1,000 .. 1,000). Bad; missing". */
    private static void insideRange() {
        MechanismHouse house = square();
        check.outside("inside p", 0, 7, Check.BAD, p -> house.inside(p, 0, 0));
        check.range("inside x", -1000, 1000, x -> house.inside(0, x, 0));
        check.range("inside y", -1000, 1000, y -> house.inside(0, 0, y));
        check.refuses("bad ahead of missing", Check.BAD, () -> house.inside(1, 1001, 0));
        plate(house, 7, -1000, -1000, 1000, -1000, 1000, 1000, -1000, 1000);
        check.due("the farthest corner", house.inside(7, 1000, -1000), 2);
        check.due("next to it", house.inside(7, 999, -999), 1);
    }

    /** "2 on an edge": its ends, between them, not beyond them; an edge without length. */
    private static void insideOnAnEdge() {
        MechanismHouse house = square();
        plate(house, 1, 0, 0, 6, 3, 0, 6, 0, 6);
        int[] points = {0, 0, 2, 6, 3, 2, 2, 1, 2, 4, 2, 2, 8, 4, 0, -2, -1, 0, 0, 6, 2, 0, 7, 0, 0, 3, 2, 1, 3, 1,
            5, 3, 1, 7, 3, 0, 3, 1, 0, 3, 2, 1};
        for (int k = 0; k < points.length; k += 3) {
            check.due("inside(1, " + points[k] + ", " + points[k + 1] + ")",
                    house.inside(1, points[k], points[k + 1]), points[k + 2]);
        }
        for (int k = 0; k <= 4; k++) {
            check.due("below", house.inside(0, k, 0), 2);
            check.due("above", house.inside(0, k, 4), 2);
            check.due("left", house.inside(0, 0, k), 2);
            check.due("right", house.inside(0, 4, k), 2);
            check.due("past the end", house.inside(0, 5, k), 0);
            check.due("past the end", house.inside(0, k, -1), 0);
        }
    }

    /** "1 if it is in by turns not 0, else 0": twice round, the other way round, there and back. */
    private static void insideByTurns() {
        MechanismHouse house = new MechanismHouse();
        plate(house, 0, 0, 0, 4, 0, 4, 4, 0, 4, 0, 0, 4, 0, 4, 4, 0, 4);
        check.due("twice round", house.inside(0, 2, 2), 1);
        plate(house, 0, 0, 4, 4, 4, 4, 0, 0, 0);
        check.due("the other way round", house.inside(0, 2, 2), 1);
        plate(house, 0, 0, 0, 4, 0, 4, 4, 0, 4, 0, 0, 0, 4, 4, 4, 4, 0);
        check.due("there and back", house.inside(0, 2, 2), 0);
        check.due("on its edge", house.inside(0, 4, 2), 2);
        // Level with corners: those are passed once.
        plate(house, 1, 0, 0, 2, 2, 4, 0, 6, 2, 8, 0, 8, 6, 0, 6);
        check.due("level with two tips", house.inside(1, 4, 2), 1);
        check.due("left of them", house.inside(1, -1, 2), 0);
        check.due("under a tip", house.inside(1, 2, 1), 0);
        check.due("level with the ends", house.inside(1, 2, 0), 0);
    }

    /** "DISTANCE squared of PLATES p and q: what 0 p, 1 q. Bad". */
    private static void distanceRange() {
        MechanismHouse house = square();
        plate(house, 7, 10, 0, 12, 0, 12, 2);
        check.outside("distance p", 0, 7, Check.BAD, p -> house.distance(p, 0, 0));
        check.outside("distance q", 0, 7, Check.BAD, q -> house.distance(0, q, 0));
        check.range("distance what", 0, 1, what -> house.distance(0, 7, what));
        check.refuses("bad ahead of missing", Check.BAD, () -> house.distance(1, 2, 2));
        check.due("of 0 and 7", house.distance(0, 7, 0), 36);
        check.due("of 7 and 0", house.distance(7, 0, 1), 1);
    }

    private static void far(MechanismHouse house, long p, long q) {
        check.due("p", house.distance(0, 1, 0), p);
        check.due("q", house.distance(0, 1, 1), q);
        check.due("p, the other way round", house.distance(1, 0, 0), p);
        check.due("q, the other way round", house.distance(1, 0, 1), q);
    }

    /** "0 if an edge of one and one of the other have a point in common": a corner, an edge's piece; one part off not. */
    private static void distanceInCommon() {
        MechanismHouse house = square();
        plate(house, 1, 4, 4, 8, 4, 8, 8);
        far(house, 0, 1);
        plate(house, 1, 5, 4, 8, 4, 8, 8);
        far(house, 1, 1);
        plate(house, 1, 5, 5, 8, 5, 8, 8);
        far(house, 2, 1);
        plate(house, 1, 4, 1, 8, 1, 4, 3);
        far(house, 0, 1);
        plate(house, 1, -1, 2, 5, 2, 5, 3, -1, 3);
        far(house, 0, 1);
        // Two long thin ones that cross, with no corner in the other; turned about in all ways.
        int[] thin = {-1, 0, 2, 1, 2, 1};
        int[] other = {0, 1, 1, 0, 1, 0};
        for (int turn = 0; turn < 8; turn++) {
            int[] a = new int[6];
            int[] b = new int[6];
            for (int k = 0; k < 6; k += 2) {
                int at = turn < 4 ? k : 4 - k;
                a[k] = turn % 2 == 0 ? thin[at] : thin[at + 1];
                a[k + 1] = turn % 2 == 0 ? thin[at + 1] : thin[at];
                b[k] = turn % 2 == 0 ? other[at] : other[at + 1];
                b[k + 1] = turn % 2 == 0 ? other[at + 1] : other[at];
                if (turn % 4 >= 2) {
                    a[k] = -a[k];
                    b[k] = -b[k];
                }
            }
            plate(house, 0, a);
            plate(house, 1, b);
            far(house, 0, 1);
        }
        far(house, house.distance(0, 0, 0), house.distance(1, 1, 1));
    }

    /** "or a corner of one is in the other": within, with all round it free; in a hole by turns it isn't. */
    private static void distanceWithin() {
        MechanismHouse house = new MechanismHouse();
        plate(house, 0, 0, 0, 100, 0, 100, 100, 0, 100);
        plate(house, 1, 50, 50, 51, 50, 50, 51);
        far(house, 0, 1);
        plate(house, 1, 101, 50, 110, 50, 110, 60);
        far(house, 1, 1);
        // Round and back again: by turns it is out, so the nearest edge counts.
        plate(house, 0, 0, 0, 100, 0, 100, 100, 0, 100, 0, 0, 0, 100, 100, 100, 100, 0);
        plate(house, 1, 50, 50, 60, 50, 50, 60);
        far(house, 1600, 1);
    }

    /** "(to an edge: the foot within, else the nearer end)", FRACTIONS in lowest terms. */
    private static void distanceToAnEdge() {
        MechanismHouse house = new MechanismHouse();
        plate(house, 0, 0, 0, 4, 0, 0, 4);
        plate(house, 1, 4, 4, 8, 4, 4, 8);
        far(house, 8, 1);
        plate(house, 1, 3, 4, 8, 4, 4, 8);
        far(house, 9, 2);
        // The foot at the very end of an edge, and a little beyond.
        plate(house, 1, 6, 2, 9, 2, 9, 3);
        far(house, 8, 1);
        plate(house, 1, 7, 2, 9, 2, 9, 3);
        far(house, 13, 1);
        plate(house, 0, -1000, 1000, -1000, 999, 999, -1000);
        plate(house, 1, 1000, -999, 1000, 1000, 999, 1000);
        far(house, 3999 * 3999, 1999 * 1999 + 2000 * 2000);
        plate(house, 0, -1000, -1000, -1000, -1000, -1000, -1000);
        plate(house, 1, 1000, 1000, 1000, 1000, 1000, 1000);
        far(house, 8000000, 1);
    }
}
