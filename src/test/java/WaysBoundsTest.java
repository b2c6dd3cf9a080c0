/**
 * The boundary sentences on BOXES, INPUTS and WAYS, and promises 5 to 10: linkage, point, input, ways, way, at.
 * Above each test stands the sentence that it holds.
 */
public final class WaysBoundsTest {
    private static final Check check = new Check();
    private static final long ONE = 65536;
    private static final long FAR = 1L << 31;
    // E is one part of 2^16 right of O, F one left of it.
    private static final String PARTS = "fix O 0 0;fix H 1/8 0;body E O H 1/8192 0;body F O H -1/8192 0;";

    public static void main(String[] args) {
        linkageInPlace();
        pointNames();
        inputRange();
        placesAtFirst();
        directions();
        turnsOfCranks();
        powers();
        fractionsAsBoxes();
        openAbove();
        openInside();
        dividedByZero();
        noneOfDyads();
        noneOfSlides();
        countsAsZero();
        noneAheadOfOpen();
        openPoints();
        bitsOfWays();
        howManyWays();
        wayRange();
        atRange();
        atMissing();
        check.close();
    }

    private static void box(MechanismHouse house, int w, int p, int axis, long lesser, long greater) {
        check.due("at(" + w + ", " + p + ", " + axis + ", 0)", house.at(w, p, axis, 0), lesser);
        check.due("at(" + w + ", " + p + ", " + axis + ", 1)", house.at(w, p, axis, 1), greater);
    }

    private static void state(String text, int ways, int sure) {
        MechanismHouse house = Check.linked(text);
        check.due("ways of " + text, house.ways(), ways);
        if (ways > 0) {
            check.due("SURE of " + text, house.way(0, 1), sure);
        } else {
            check.refuses("way of " + text, Check.MISSING, () -> house.way(0, 1));
        }
    }

    /** "A LINKAGE in place of the one before (a FAULT: that stays): how many POINTS. No loads, masses then." */
    private static void linkageInPlace() {
        MechanismHouse house = Check.linked("fix A 1 0;crank B A 1 0 1 0;dyad C A B 1 1 ?;");
        house.input(0, 300);
        house.load(1, 0, 2);
        house.mass(0, 3);
        long moment = house.moment(0, 0, 0);
        check.faulty("fix Z 0 0;fix Z 0 0;", 2, 14, house, () -> house.linkage());
        check.due("POINTS stay", house.count(0), 3);
        check.due("? stay", house.count(1), 1);
        check.due("places stay", house.count(2), 300);
        check.due("loads stay", house.moment(0, 0, 0), moment);
        check.due("masses stay", house.middle(0, 0, 0), ONE);
        Check.type(house, "B");
        check.due("names stay", house.point(), 1);
        Check.type(house, "");
        check.due("one of none is taken", house.linkage(), 0);
        check.due("POINTS go", house.count(0), 0);
        check.due("? go", house.count(1), 0);
        check.due("places go", house.count(2), 0);
        check.due("loads go", house.moment(0, 0, 0), 0);
        check.refuses("masses go", Check.MISSING, () -> house.middle(0, 0, 0));
        Check.type(house, "B");
        check.due("names go", house.point(), -1);
        Check.type(house, "fix A 1 0;crank B A 1 0 1 0;dyad C A B 1 1 ?;");
        house.linkage();
        check.due("no load of the one before", house.moment(0, 0, 0), 0);
        check.refuses("no mass of the one before", Check.MISSING, () -> house.middle(0, 0, 0));
        for (int k = 1; k <= 6; k++) {
            Check.type(house, "fix A " + k + " 0;crank B A " + k + " 0 1 0;dyad C A B " + k + " " + k + " ?;");
            house.linkage();
            box(house, 0, 0, 0, k * ONE, k * ONE);
            box(house, 0, 1, 0, 2 * k * ONE, 2 * k * ONE);
            check.due("C of the present one", house.at(1, 2, 0, 0), k * 3 * ONE / 2);
        }
        Check.type(house, "fix A 1 0;crank B A 1 0 1 0;dyad C A B 1 1 ?;");
        house.linkage();
        house.input(0, 256);
        house.load(1, 1000, 0);
        check.due("a load sideways", house.moment(0, 0, 0), 1000 * ONE);
        for (int k = 0; k < 3; k++) {
            Check.type(house, "fix A 1 0;crank B A 1 0 1 0;dyad C A B 1 1 ?;");
            house.linkage();
            house.input(0, 256);
            check.due("no load of one before", house.moment(0, 0, 0), 0);
        }
    }

    /** "The number of the POINT whose NAME INPUT is (INPUT stays); -1 if none." */
    private static void pointNames() {
        MechanismHouse house = new MechanismHouse();
        check.due("point of nothing in nothing", house.point(), -1);
        Check.type(house, "A");
        check.due("point in no LINKAGE", house.point(), -1);
        house = Check.linked("fix A 0 0;fix Aa 0 0;fix aA 0 0;fix Abcdefgh 0 0;fix bcdefgh 0 0;fix fix 0 0;");
        String[] names = {"A", "Aa", "aA", "Abcdefgh", "bcdefgh", "fix", "", "a", "AA", "Abcdefg", "Abcdefghi",
            "cdefgh", "A ", " A", "A;", "A0", "\u0000A", "A\u0000", "\u00c1", "fix A"};
        int[] want = {0, 1, 2, 3, 4, 5, -1, -1, -1, -1, -1, -1, -1, -1, -1, -1, -1, -1, -1, -1};
        for (int k = 0; k < names.length; k++) {
            Check.type(house, names[k]);
            check.due("point of " + names[k], house.point(), want[k]);
            check.due("INPUT stays", house.count(10), names[k].length());
            check.due("and is told again", house.point(), want[k]);
        }
        StringBuilder many = new StringBuilder();
        for (int k = 0; k < 4000; k++) {
            many.append('A');
        }
        Check.type(house, many.toString());
        check.due("point of 4,000 letters", house.point(), -1);
        check.due("INPUT stays", house.count(10), 4000);
    }

    /** "INPUT i (0 .. 3) goes to a place k (0 .. 1,023). Bad." */
    private static void inputRange() {
        MechanismHouse house = new MechanismHouse();
        check.range("input i", 0, 3, i -> house.input(i, 5));
        check.due("the ends went", house.count(2) + house.count(5), 10);
        check.due("the others didn't", house.count(3) + house.count(4), 0);
        for (int i = 0; i < 4; i++) {
            final int input = i;
            check.range("input k", 0, 1023, k -> house.input(input, k));
            check.due("the last good one", house.count(2 + i), 1023);
        }
        check.refuses("both bad", Check.BAD, () -> house.input(4, 1024));
    }

    /** "places 0 .. 1,023 (0 at first, and behind each LINKAGE that is taken)". */
    private static void placesAtFirst() {
        MechanismHouse house = new MechanismHouse();
        for (int i = 0; i < 4; i++) {
            check.due("at first", house.count(2 + i), 0);
            house.input(i, 1023 - i);
        }
        check.faulty("fix A 0 0;fix", 1, 13, house, () -> house.linkage());
        for (int i = 0; i < 4; i++) {
            check.due("behind a FAULT", house.count(2 + i), 1023 - i);
        }
        Check.type(house, "fix A 0 0;crank B A 1 3 1 0;");
        house.linkage();
        for (int i = 0; i < 4; i++) {
            check.due("behind a LINKAGE", house.count(2 + i), 0);
        }
        box(house, 0, 1, 0, ONE, ONE);
        house.input(3, 256);
        Check.type(house, "dwell 360;");
        house.cam();
        check.due("behind a CAM", house.count(5), 256);
    }

    /** D(k)'s box, worked out here as the document tells it: x, y of r = k % 256, turned k / 256 times. */
    private static long[] direction(int k) {
        long r = k % 256;
        long under = 65536 + r * r;
        long[] d = {Math.floorDiv(ONE * (65536 - r * r), under), -Math.floorDiv(-ONE * (65536 - r * r), under),
            Math.floorDiv(ONE * 512 * r, under), -Math.floorDiv(-ONE * 512 * r, under)};
        for (int q = 0; q < k / 256; q++) {
            d = new long[] {-d[3], -d[2], d[0], d[1]};
        }
        return d;
    }

    /** "D(k): q = k / 256, r = k % 256": at all places, each end of a quarter among them. */
    private static void directions() {
        MechanismHouse house = null;
        for (int k = 0; k < 1024; k++) {
            if (k % 64 == 0) {
                house = Check.linked("fix A 0 0;crank B A 1 2 1 0;");
            }
            house.input(2, k);
            long[] d = direction(k);
            box(house, 0, 1, 0, d[0], d[1]);
            box(house, 0, 1, 1, d[2], d[3]);
        }
    }

    /** "C = A + R * (DIR(I)^N turned by D(K))": K at the ends of its range and of the quarters. */
    private static void turnsOfCranks() {
        int[] places = {0, 1, 255, 256, 257, 511, 512, 513, 767, 768, 769, 1023};
        for (int k = 0; k < places.length; k++) {
            MechanismHouse house = Check.linked("fix A 0 0;crank B A 1 0 0 " + places[k] + ";crank C A 60 0 1 0;");
            long[] d = direction(places[k]);
            box(house, 0, 1, 0, d[0], d[1]);
            box(house, 0, 1, 1, d[2], d[3]);
            box(house, 0, 2, 0, 60 * ONE, 60 * ONE);
        }
    }

    /** "^N: N = 0: 1, 0; else for N below 0 with -y in place of y": all N from -8 to 8, at a quarter. */
    private static void powers() {
        int[] xs = {1, 0, -1, 0};
        int[] ys = {0, 1, 0, -1};
        for (int n = -8; n <= 8; n++) {
            MechanismHouse house = Check.linked("fix A 0 0;crank B A 1 0 " + n + " 0;");
            for (int quarter = 0; quarter < 4; quarter++) {
                house.input(0, 256 * quarter);
                int turned = Math.floorMod(n * quarter, 4);
                box(house, 0, 1, 0, xs[turned] * ONE, xs[turned] * ONE);
                box(house, 0, 1, 1, ys[turned] * ONE, ys[turned] * ONE);
            }
        }
    }

    /** "A FRACTION as a box: 2^16 p / q rounded down .. rounded up." */
    private static void fractionsAsBoxes() {
        MechanismHouse house = Check.linked("fix A 1/3 -1/3;fix B 1/2 -1/2;fix C 1/9999 -1/9999;fix D 60 -60;"
                + "fix E 9959/166 -0;");
        box(house, 0, 0, 0, 21845, 21846);
        box(house, 0, 0, 1, -21846, -21845);
        box(house, 0, 1, 0, 32768, 32768);
        box(house, 0, 1, 1, -32768, -32768);
        box(house, 0, 2, 0, 6, 7);
        box(house, 0, 2, 1, -7, -6);
        box(house, 0, 3, 0, 60 * ONE, 60 * ONE);
        box(house, 0, 3, 1, -60 * ONE, -60 * ONE);
        box(house, 0, 4, 0, 3931765, 3931766);
        box(house, 0, 4, 1, 0, 0);
    }

    /** "A box is OPEN if a number of it is above 2^31 in size": 2^31 isn't, 2^31 + 1 is, on all four sides. */
    private static void openAbove() {
        for (int turn = 0; turn < 4; turn++) {
            int k = 256 * turn;
            String far = " 32 0 0 " + k + ";";
            MechanismHouse house = Check.linked("fix O 0 0;crank H O 1/8 0 0 " + k + ";body E O H 1/8192 0;"
                    + "body F O H -1/8192 0;crank A O" + far + "body B O A 32 0;body C O B 32 0;"
                    + "crank P F" + far + "body Q F P 32 0;body R F Q 32 0;"
                    + "crank S E" + far + "body T E S 32 0;body U E T 32 0;");
            long sign = turn == 0 || turn == 1 ? 1 : -1;
            box(house, 0, 6, turn % 2, sign * FAR, sign * FAR);
            box(house, 0, 6, 1 - turn % 2, 0, 0);
            box(house, 0, 9, turn % 2, sign * (FAR - 1), sign * (FAR - 1));
            box(house, 0, 11, turn % 2, sign * ((FAR >> 5) + 1), sign * ((FAR >> 5) + 1));
            check.refuses("2^31 + 1, x", Check.MISSING, () -> house.at(0, 12, 0, 0));
            check.refuses("2^31 + 1, y", Check.MISSING, () -> house.at(0, 12, 1, 1));
            check.due("in doubt", house.way(0, 1), 0);
        }
    }

    /** "if something in it is OPEN": a sum, a square, a quotient above 2^31 on the way to a number that isn't. */
    private static void openInside() {
        String wide = "fix O 0 0;fix V 8 0;body B O V 181/8 1/4;";
        // n = 181 181 + 2 2 = 2^15 - 3. P P is 3 at most, so n + P P is 2^31 and h is told: NONE.
        state(wide + "dyad C O B 2340/1351 1 +;", 0, 0);
        // P P is a little more than 3, so n + P P is 2^31 + 1: OPEN, and NONE isn't asked.
        state(wide + "dyad C O B 1351/780 1 +;", 1, 0);
        // t is 2^31 where the lines cross at 32, above it one part farther on.
        String lines = PARTS + "fix A 1/1024 0;fix D 32 -1;fix G 32 1;";
        MechanismHouse house = Check.linked(lines + "cross C O A D G;");
        box(house, 0, 7, 0, 32 * ONE, 32 * ONE);
        box(house, 0, 7, 1, 0, 0);
        check.due("SURE", house.way(0, 1), 1);
        state(lines.replace("fix D 32 -1;fix G 32 1;", "crank X E 32 0 0 0;crank D X 1 0 0 256;crank G X 1 0 0 768;")
                + "cross C O A D G;", 1, 0);
        differencesAbove();
        house = Check.linked(lines.replace("32", "-32") + "cross C O A D G;");
        box(house, 0, 7, 0, -32 * ONE, -32 * ONE);
        state(lines.replace("fix D 32 -1;fix G 32 1;", "crank X F 32 0 0 512;crank D X 1 0 0 256;crank G X 1 0 0 768;")
                + "cross C O A D G;", 1, 0);
    }

    /** L and R stand 2^31 and one more to the left and to the right, so what lies between them is OPEN. */
    private static void differencesAbove() {
        String apart = "fix O 0 0;crank X O 32 0 0 0;body Y O X 32 0;body L O Y -32 0;crank Z O 3 0 0 256;body V Z O 0 0;"
                + "crank W Z 32 0 0 0;body U Z W 32 0;body R Z U 32 0;fix S 1 0;fix T 0 1;";
        MechanismHouse house = Check.linked(apart);
        check.due("SURE", house.way(0, 1), 1);
        box(house, 0, 3, 0, -FAR, -FAR);
        box(house, 0, 8, 0, FAR, FAR);
        box(house, 0, 8, 1, 3 * ONE, 3 * ONE);
        // Without the OPEN box these would be NONE.
        state(apart + "dyad C L R 1 1 +;", 1, 0);
        state(apart + "dyad C R L 1 1 -;", 1, 0);
        state(apart + "slide C L 1 R T +;", 1, 0);
        state(apart + "slide C O 1 L R +;", 1, 0);
        // And these would stand somewhere.
        String[] open = {"body C L R 0 0;", "cross C L R O T;", "cross C O T L R;", "cross C L T R S;"};
        for (int k = 0; k < open.length; k++) {
            MechanismHouse one = Check.linked(apart + open[k]);
            check.refuses("C of " + open[k], Check.MISSING, () -> one.at(0, 11, 1, 0));
            check.due("in doubt: " + open[k], one.way(0, 1), 0);
        }
        check.refuses("least of L and R", Check.MISSING, () -> house.least(0, 0, 3, 8, 0));
        check.refuses("least of R and L", Check.MISSING, () -> house.least(0, 0, 8, 3, 1));
    }

    /** "or if what is divided by holds 0": at its lesser end, at its greater end, alone; next to it not. */
    private static void dividedByZero() {
        String flat = "fix O 0 0;fix H 1/8 0;body A O H 0 1/8192;crank B A 1 0 0 0;body X O H 0 ";
        MechanismHouse house = Check.linked(flat + "1/8192;crank E X 1 0 0 0;cross C A B O E;");
        box(house, 0, 4, 1, 1, 1);
        box(house, 0, 6, 0, ONE, ONE);
        box(house, 0, 6, 1, 1, 1);
        house = Check.linked(flat + "-1/8192;crank E X 1 0 0 0;cross C A B O E;");
        box(house, 0, 4, 1, -1, -1);
        box(house, 0, 6, 0, -ONE, -ONE);
        String[] holding = {"1/9999", "-1/9999", "0"};
        long[] ends = {0, 1, -1, 0, 0, 0};
        for (int k = 0; k < holding.length; k++) {
            MechanismHouse open = Check.linked(flat + holding[k] + ";crank E X 1 0 0 0;cross C A B O E;");
            box(open, 0, 4, 1, ends[2 * k], ends[2 * k + 1]);
            check.refuses("C is OPEN", Check.MISSING, () -> open.at(0, 6, 0, 0));
            check.due("in doubt", open.way(0, 1), 0);
        }
        state("fix A 0 0;fix B 0 0;dyad C A B 1 1 +;", 1, 0);
        state("fix A 0 0;dyad C A A 1 1 +;", 1, 0);
        state("fix A 0 0;fix B 1/9999 0;dyad C A B 1 1 +;", 1, 0);
        state("fix A 0 0;fix B 1 0;slide C A 2 B B +;", 1, 0);
        state("fix A 0 0;fix B 1 0;fix D 0 1;fix E 1 1;cross C A B D E;", 1, 0);
        state("fix A 0 0;fix B 1 0;cross C A A A B;", 1, 0);
    }

    /** "NONE if h's greater number is below 0; DOUBTFUL if the lesser one is": h -2 .. -1, -2 .. 0, -1 .. 1, 0 .. 2. */
    private static void noneOfDyads() {
        state("fix A 0 0;fix B 1/4 0;dyad C A B 1/16 767/4096 +;", 0, 0);
        state("fix A 0 0;fix B 1/8 0;dyad C A B 1/16 255/4096 +;", 1, 0);
        state("fix A 0 0;fix B 3/8 0;dyad C A B 1/16 5/16 -;", 1, 0);
        state("fix A 0 0;fix B 1/8 0;dyad C A B 1/16 257/4096 -;", 1, 1);
        state("fix A 0 0;fix B 8 0;dyad C A B 4 4 +;", 1, 1);
    }

    /** "NONE, DOUBTFUL as before": h -4 .. -1, -3 .. 0, -1 .. 1, 0 .. 3. */
    private static void noneOfSlides() {
        String line = "fix A 0 1/3;fix D 0 0;fix E 1 0;slide C A ";
        state(line + "1780/5341 D E +;", 0, 0);
        state(line + "3330/9991 D E +;", 1, 0);
        state("fix A 0 1/5;fix D 0 0;fix E 1 0;slide C A 1/5 D E -;", 1, 0);
        state(line + "2187/6560 D E -;", 1, 1);
        state("fix A 0 1;fix D 0 0;fix E 1 0;slide C A 1 D E +;", 1, 1);
    }

    /** "(it counts as 0 then)": a DOUBTFUL h begins with 0. */
    private static void countsAsZero() {
        MechanismHouse dyad = Check.linked("fix A 0 0;fix B 3/8 0;dyad C A B 1/16 5/16 ?;");
        box(dyad, 0, 2, 0, 4095, 4097);
        box(dyad, 0, 2, 1, 0, 272);
        box(dyad, 1, 2, 1, -272, 0);
        MechanismHouse slide = Check.linked("fix A 0 1/5;fix D 0 0;fix E 1 0;slide C A 1/5 D E ?;");
        box(slide, 0, 3, 0, 0, 256);
        box(slide, 1, 3, 0, -256, 0);
        MechanismHouse zero = Check.linked("fix A 0 0;fix B 1/8 0;dyad C A B 1/16 255/4096 ?;");
        box(zero, 0, 2, 0, 4096, 4104);
        box(zero, 1, 2, 1, 0, 0);
    }

    /** "(an h that isn't OPEN is asked for NONE ahead of that; else NONE isn't asked of these)". */
    private static void noneAheadOfOpen() {
        // A stands at 2^15, C would stand at 2^15 + 2.
        String far = "fix O 0 0;crank X O 32 0 0 0;body Y O X 32 0;body A O Y 32 0;crank B A 4 0 0 512;";
        state(far + "dyad C A B 2 6 +;", 1, 0);
        state(far + "dyad C A B 2 7 +;", 0, 0);
        state(far + "dyad C A B 2 2 +;", 1, 1);
        // A slide along a line that ends at 2^15: the far one of the two is OPEN.
        state(far + "slide C A 1 B A +;", 1, 0);
        state(far + "slide C A 1 B A -;", 1, 1);
        state(far + "crank U O 2 0 0 256;slide C U 1 B A +;", 1, 0);
        // Z is OPEN, so no h of what hangs on it is told.
        String open = far + "crank Z A 1 0 0 0;fix T 0 0;fix S 1 0;";
        state(open + "dyad C Z T 1 1 +;", 1, 0);
        state(open + "dyad C T Z 1 1 +;", 1, 0);
        state(open + "slide C Z 1 T S +;", 1, 0);
        state(open + "slide C T 1 Z S +;", 1, 0);
        state(open + "slide C T 1 S Z +;", 1, 0);
        // But that a POINT elsewhere is NONE is asked.
        state(open + "dyad C T S 2 4 +;", 0, 0);
        state("dyad C T S 2 4 +;" + open, 0, 0);
    }

    /** "A POINT with an OPEN box is OPEN, and those that hang on it": both axes, in all forms; others aren't. */
    private static void openPoints() {
        MechanismHouse house = Check.linked("fix O 0 0;crank X O 32 0 0 0;body Y O X 32 0;body A O Y 32 0;crank Z A 1 0 0 0;"
                + "fix T 1 1;crank C Z 1 0 0 256;dyad D Z T 1 1 +;slide E T 1 O Z -;body F O Z 0 0;cross G O X T Z;"
                + "crank I F 1 0 0 0;");
        for (int p = 4; p <= 11; p++) {
            final int point = p;
            if (p != 5) {
                check.refuses("x of " + p, Check.MISSING, () -> house.at(0, point, 0, 0));
                check.refuses("y of " + p, Check.MISSING, () -> house.at(0, point, 1, 1));
            }
        }
        box(house, 0, 3, 0, FAR, FAR);
        box(house, 0, 5, 1, ONE, ONE);
        check.due("ways", house.ways(), 1);
        check.due("in doubt", house.way(0, 1), 0);
        check.refuses("step", Check.REFUSED, () -> house.step(0, 0, 1));
    }

    /** "WAYS: numbers w: bit j tells of the j-th ? in the TEXT (0 +, 1 -)": the first and the 8th. */
    private static void bitsOfWays() {
        StringBuilder text = new StringBuilder("dyad Z B A 5 5 ?;fix A 0 0;fix B 6 0;");
        for (int k = 1; k < 8; k++) {
            text.append("dyad C").append((char) ('a' + k)).append(" A B 5 5 ?;");
        }
        MechanismHouse house = Check.linked(text.toString());
        for (int w = 0; w < 256; w += 51) {
            check.due("? 0 of " + w, Long.signum(house.at(w, 0, 1, 0)), (w & 1) == 0 ? -1 : 1);
            for (int k = 1; k < 8; k++) {
                check.due("? " + k + " of " + w, Long.signum(house.at(w, 2 + k, 1, 0)), (w >> k & 1) == 0 ? 1 : -1);
            }
        }
    }

    /** "How many WAYS there are now (those that aren't NOT)": none, one, all of them, as INPUTS go. */
    private static void howManyWays() {
        check.due("of no LINKAGE", new MechanismHouse().ways(), 1);
        check.due("of no ?", Check.linked("fix A 0 0;").ways(), 1);
        StringBuilder text = new StringBuilder("fix A 0 0;fix B 6 0;crank G B 4 0 1 0;");
        for (int k = 0; k < 8; k++) {
            text.append("dyad C").append((char) ('a' + k)).append(" A G 5 5 ?;");
        }
        MechanismHouse house = Check.linked(text.toString());
        check.due("stretched", house.ways(), 256);
        check.due("the last", house.way(255, 0), 255);
        house.input(0, 512);
        check.due("bent", house.ways(), 256);
        MechanismHouse far = Check.linked(text.toString().replace("crank G B 4", "crank G B 5"));
        check.due("too far", far.ways(), 0);
        far.input(0, 512);
        check.due("near again", far.ways(), 256);
        far.input(0, 0);
        check.due("too far again", far.ways(), 0);
        // Of each LINKAGE its own, however many were before.
        String[] marks = {"+", "?", "?", "-", "?"};
        String[] widths = {"6", "6", "12", "12", "6"};
        int[] want = {1, 2, 0, 0, 2};
        MechanismHouse many = new MechanismHouse();
        for (int k = 0; k < 25; k++) {
            int which = k * k % 5;
            Check.type(many, "fix A 0 0;fix B " + widths[which] + " 0;dyad C A B 5 5 " + marks[which] + ";");
            many.linkage();
            check.due("ways of LINKAGE " + k, many.ways(), want[which]);
        }
    }

    /** "The j-th WAY now, from 0 (by w rising): what 0 w, 1 whether it is SURE (1, else 0). Bad what; missing." */
    private static void wayRange() {
        // In ways 1 and 3 D is too far off, in way 2 as near as in way 0.
        MechanismHouse house = Check.linked("fix A 0 0;fix B 6 0;dyad C A B 5 5 ?;fix G 3 10;dyad D C G 2 5 ?;");
        check.range("way what", 0, 1, what -> house.way(1, what));
        check.due("the first", house.way(0, 0), 0);
        check.due("the last", house.way(1, 0), 2);
        check.outside("way j", 0, 1, Check.MISSING, j -> house.way(j, 0));
        check.outside("way j", 0, 1, Check.MISSING, j -> house.way(j, 1));
        check.refuses("both", Check.BAD, () -> house.way(2, 2));
        check.due("none of a new object's but one", new MechanismHouse().way(0, 0), 0);
        check.refuses("way(1, 0) of a new object", Check.MISSING, () -> new MechanismHouse().way(1, 0));
        MechanismHouse doubtful = Check.linked("fix A 0 0;fix B 3 0;dyad C A B 1 2 ?;");
        check.due("in doubt", doubtful.way(0, 1), 0);
        check.due("in doubt", doubtful.way(1, 1), 0);
    }

    /** "way w (0 .. 255; bits of no ? are left out) ..: axis 0 x, 1 y, side 0 .., 1 .. Bad w, axis, side". */
    private static void atRange() {
        MechanismHouse house = Check.linked("fix A 0 0;fix B 6 0;dyad C A B 5 5 ?;");
        check.range("at w", 0, 255, w -> house.at(w, 2, 0, 0));
        check.range("at axis", 0, 1, axis -> house.at(0, 2, axis, 0));
        check.range("at side", 0, 1, side -> house.at(0, 2, 0, side));
        for (int bit = 1; bit < 8; bit++) {
            check.due("bit " + bit, house.at(1 << bit, 2, 1, 0), house.at(0, 2, 1, 0));
            check.due("bits 0 and " + bit, house.at(1 << bit | 1, 2, 1, 0), house.at(1, 2, 1, 0));
        }
        check.due("way 255 is way 1", house.at(255, 2, 1, 1), -6 * 43690);
        check.due("way 254 is way 0", house.at(254, 2, 1, 1), 6 * 43692);
    }

    /** "missing: POINT, it is OPEN, w is NOT." */
    private static void atMissing() {
        MechanismHouse house = Check.linked("fix A 0 0;fix B 6 0;dyad C A B 5 5 ?;fix G 3 10;dyad D C G 2 5 +;");
        check.good("the first POINT", () -> house.at(0, 0, 0, 0));
        check.good("the last POINT", () -> house.at(0, 4, 0, 0));
        check.outside("at p", 0, 4, Check.MISSING, p -> house.at(0, p, 0, 0));
        for (int p = 0; p < 5; p++) {
            final int point = p;
            check.refuses("way 1 is NOT, POINT " + p, Check.MISSING, () -> house.at(1, point, 0, 0));
        }
        check.refuses("no POINT at all", Check.MISSING, () -> new MechanismHouse().at(0, 0, 0, 0));
        // Of a way in doubt the POINTS are told.
        MechanismHouse doubtful = Check.linked("fix A 0 0;fix B 3 0;dyad C A B 1 2 +;crank D C 1 0 0 0;");
        check.good("a DOUBTFUL one", () -> doubtful.at(0, 2, 0, 0));
        check.due("what hangs on it", doubtful.at(0, 3, 0, 0), doubtful.at(0, 2, 0, 0) + ONE);
    }
}
