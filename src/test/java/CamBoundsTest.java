/**
 * The boundary sentences on CAMS and of promises 30 to 32: cam, lift, camAbout; and of sums that are TOO LARGE. Those
 * on a CAM's TEXT stand in TextBoundsTest. Above each test stands the sentence that it holds.
 */
public final class CamBoundsTest {
    private static final Check check = new Check();
    private static final long LIMIT = 1000000000000000L;
    private static MechanismHouse house;

    public static void main(String[] args) {
        camInPlace();
        sumOfTwo();
        productsInASum();
        liftRange();
        liftAngles();
        liftMissing();
        endsOfStatements();
        lawTwoInItsMiddle();
        liftTooLarge();
        sumInALift();
        lowestTerms();
        camAboutRange();
        camAboutMissing();
        steepest();
        smooth();
        check.close();
    }

    private static void cam(String text, int statements) {
        house = new MechanismHouse();
        Check.type(house, text);
        check.good("cam of " + text, () -> check.due("cam of " + text, house.cam(), statements));
    }

    private static void fault(String text, int number) {
        house = new MechanismHouse();
        check.faulty(text, number, text.length(), house, () -> house.cam());
    }

    private static void lift(int p, int q, long wantP, long wantQ) {
        check.due("lift(" + p + ", " + q + ", 0)", house.lift(p, q, 0), wantP);
        check.due("lift(" + p + ", " + q + ", 1)", house.lift(p, q, 1), wantQ);
    }

    /** "A CAM in place of the one before (a FAULT: that stays): how many STATEMENTS." */
    private static void camInPlace() {
        cam("rise 180 10 1;fall 180 10 1;", 2);
        String[] faulty = {"dwell", "dwell 0;", "dwell 360;rise 1 61 1;", "dwell 359;", "rise 360 1 1;"};
        int[] numbers = {1, 5, 5, 7, 8};
        int[] places = {5, 6, 17, 10, 13};
        for (int k = 0; k < faulty.length; k++) {
            check.faulty(faulty[k], numbers[k], places[k], house, () -> house.cam());
            lift(90, 1, 5, 1);
            check.due("STATEMENTS stay", house.camAbout(3), 2);
        }
        Check.type(house, "dwell 360;");
        check.due("the next", house.cam(), 1);
        lift(90, 1, 0, 1);
        check.due("STATEMENTS", house.camAbout(3), 1);
        Check.type(house, "fix A 0 0;");
        house.linkage();
        check.due("a LINKAGE leaves it", house.camAbout(3), 1);
    }

    /** Rises (falls behind a -), ten degrees each, then the same back in an order, then a dwell for the rest. */
    private static String thereAndBack(int[] order, String... lifts) {
        StringBuilder text = new StringBuilder();
        for (int k = 0; k < lifts.length; k++) {
            text.append(statement(lifts[k], false));
        }
        for (int k = 0; k < lifts.length; k++) {
            text.append(statement(lifts[order[k]], true));
        }
        return text + "dwell " + (360 - 20 * lifts.length) + ";";
    }

    private static String statement(String lift, boolean back) {
        boolean down = lift.startsWith("-");
        return (down != back ? "fall 10 " : "rise 10 ") + (down ? lift.substring(1) : lift) + " 1;";
    }

    /** "One is TOO LARGE if .. the sum of two .. is above 10^15": 10^15 isn't, 10^15 + 1 is. */
    private static void sumOfTwo() {
        int[] order = {0, 1, 2, 3};
        // The four come to 10^15 / (9973 9967 9949 1009).
        cam(thereAndBack(order, "3244/9973", "4955/9967", "1315/9949", "48/1009"), 9);
        lift(40, 1, LIMIT, 9973L * 9967 * 9949 * 1009);
        // These to (10^15 + 1) / the same.
        int[] five = {4, 3, 2, 1, 0};
        fault(thereAndBack(five, "-1", "894/9973", "3711/9967", "9565/9949", "584/1009"), 8);
        cam(thereAndBack(five, "-1", "894/9973", "3711/9967", "9565/9949", "583/1009"), 11);
        // The sum of two is 10^15, then 10^15 + 2: in lowest terms it would be half of that, but it isn't asked so.
        cam(thereAndBack(order, "2362/9973", "4576/9967", "1509/9946", "1177/998"), 9);
        lift(40, 1, LIMIT / 2, 9973L * 9967 * 4973 * 499);
        fault(thereAndBack(order, "6601/9973", "1351/9967", "699/9946", "1157/998"), 8);
    }

    /** "a product in it (of two numbers, as told)": a (d / g), c (b / g), b (d / g), each alone. */
    private static void productsInASum() {
        int[] order = {0, 1, 2, 3};
        // a = 10^12, d = 1,000.
        cam(thereAndBack(order, "760/9973", "2159/9967", "7147/9949", "-7/1000"), 9);
        // a = 10^12 + 1.
        fault(thereAndBack(order, "3184/9973", "2805/9967", "4084/9949", "-7/1000"), 8);
        // b = 9973 9967 9949: c = 1,011 fits, 1,012 and more don't.
        int[] five = {1, 0, 2, 3, 4};
        cam(thereAndBack(five, "-1", "1/9973", "1/9967", "1/9949", "1011/1000"), 11);
        fault(thereAndBack(five, "-1", "1/9973", "1/9967", "1/9949", "1013/1000"), 8);
        // d = 1,009 fits, 1,012 and more don't.
        cam(thereAndBack(order, "1/9973", "1/9967", "1/9949", "1/1009"), 9);
        fault(thereAndBack(order, "1/9973", "1/9967", "1/9949", "1/1013"), 8);
        // With g = 1,009 once more: nothing grows.
        cam(thereAndBack(five, "1/9973", "1/9967", "1/9949", "1/1009", "1008/1009"), 11);
    }

    /** "The lift at p / q (q 1 .. 1,000 ..): what 0 its p, 1 its q. Bad". */
    private static void liftRange() {
        cam("dwell 360;", 1);
        check.range("lift q", 1, 1000, q -> house.lift(0, q, 0));
        check.range("lift what", 0, 1, what -> house.lift(0, 1, what));
        check.refuses("q 0 and p 0", Check.BAD, () -> house.lift(0, 0, 0));
        check.refuses("q below 0", Check.BAD, () -> house.lift(-5, -1, 0));
    }

    /** "0 <= p / q < 360". */
    private static void liftAngles() {
        cam("rise 180 1 1;fall 180 1 1;", 2);
        int[] qs = {1, 2, 7, 999, 1000};
        for (int k = 0; k < qs.length; k++) {
            final int q = qs[k];
            check.range("lift p by " + q, 0, 360 * q - 1, p -> house.lift(p, q, 0));
        }
        lift(0, 1000, 0, 1);
        lift(359999, 1000, 1, 180000);
        lift(359, 1, 1, 180);
    }

    /** "missing: no CAM". */
    private static void liftMissing() {
        house = new MechanismHouse();
        check.refuses("none", Check.MISSING, () -> house.lift(0, 1, 0));
        check.refuses("bad ahead of missing", Check.BAD, () -> house.lift(360, 1, 0));
        check.refuses("bad ahead of missing", Check.BAD, () -> house.lift(0, 1, 2));
        check.faulty("dwell 1;", 7, 8, house, () -> house.cam());
        check.refuses("none behind a FAULT", Check.MISSING, () -> house.lift(0, 1, 0));
    }

    /** "what came before, then L times the law at (x - begin) / W": at both ends of each STATEMENT. */
    private static void endsOfStatements() {
        for (int law = 1; law <= 4; law++) {
            cam("rise 180 60 " + law + ";fall 180 60 " + law + ";", 2);
            lift(0, 1, 0, 1);
            lift(90, 1, 30, 1);
            lift(180, 1, 60, 1);
            lift(270, 1, 30, 1);
            cam("dwell 1;fall 1 1/3 " + law + ";dwell 1;rise 357 1/3 " + law + ";", 4);
            lift(1, 1, 0, 1);
            lift(3, 2, -1, 6);
            lift(2, 1, -1, 3);
            lift(5, 2, -1, 3);
            lift(3, 1, -1, 3);
            lift(363, 2, -1, 6);
        }
        cam("rise 180 60 3;fall 180 60 4;", 2);
        lift(45, 1, 795, 128);
        lift(135, 1, 6885, 128);
        lift(225, 1, 57105, 1024);
        lift(315, 1, 4335, 1024);
    }

    /** "2 2 t t to 1/2, else 1 - 2 (1 - t)(1 - t)". */
    private static void lawTwoInItsMiddle() {
        cam("dwell 1;rise 1 1 2;dwell 1;fall 357 1 2;", 4);
        lift(1001, 1000, 1, 500000);
        lift(1499, 1000, 249001, 500000);
        lift(3, 2, 1, 2);
        lift(1501, 1000, 250999, 500000);
        lift(1999, 1000, 499999, 500000);
        lift(3001, 1000, 63724499999L, 63724500000L);
        lift(359999, 1000, 1, 63724500000L);
    }

    /** "REFUSED: TOO LARGE": a product above the line, one below it; 10^15 itself isn't. */
    private static void liftTooLarge() {
        cam("rise 1 1 3;fall 359 1 1;", 2);
        lift(999, 1000, 499999995007497L, 500000000000000L);
        cam("rise 1 2 3;fall 359 2 1;", 2);
        lift(999, 1000, 499999995007497L, 250000000000000L);
        // By GCD first: 4 and 40 go into 5 10^14, 3 and 60 don't.
        cam("rise 1 4 3;fall 359 4 1;", 2);
        lift(999, 1000, 499999995007497L, 125000000000000L);
        cam("rise 1 40 3;fall 359 40 1;", 2);
        lift(999, 1000, 499999995007497L, 12500000000000L);
        cam("rise 1 60 3;fall 359 60 1;", 2);
        check.refuses("3 times 499999995007497", Check.REFUSED, () -> house.lift(999, 1000, 0));
        cam("rise 1 3 3;fall 359 3 1;", 2);
        check.refuses("3 times 499999995007497", Check.REFUSED, () -> house.lift(999, 1000, 0));
        lift(1, 1000, 14977509, 500000000000000L);
        cam("rise 1 1/2 3;fall 359 1/2 1;", 2);
        lift(1, 1000, 4992503, LIMIT);
        lift(999, 1000, 499999995007497L, LIMIT);
        cam("rise 1 1/3 3;fall 359 1/3 1;", 2);
        check.refuses("3 times 5 10^14", Check.REFUSED, () -> house.lift(1, 1000, 1));
        lift(999, 1000, 166666665002499L, 500000000000000L);
        check.refuses("bad ahead of it", Check.BAD, () -> house.lift(1, 1000, 2));
        cam("rise 180 60 4;fall 180 60 3;", 2);
        check.refuses("a seventh power", Check.REFUSED, () -> house.lift(1, 1000, 0));
        check.refuses("a fifth power", Check.REFUSED, () -> house.lift(359999, 1000, 0));
        // The CAM stays as it is.
        lift(90, 1, 30, 1);
        check.due("STATEMENTS", house.camAbout(3), 2);
    }

    /** "added to (taken from) what came before": that sum may be TOO LARGE, too. */
    private static void sumInALift() {
        String ups = "rise 1 1/9973 1;rise 1 1/9967 1;rise 1 1/9949 1;";
        String downs = "fall 1 1/9949 1;fall 1 1/9967 1;fall 1 1/9973 1;dwell 352;";
        long a = 9967L * 9949 + 9973L * 9949 + 9973L * 9967;
        long b = 9973L * 9967 * 9949;
        cam(ups + "rise 1 1 1;fall 1 1 1;" + downs, 9);
        lift(3, 1, a, b);
        lift(3 * 997 + 1, 997, 997 * a + b, 997 * b);
        lift(4 * 997 + 996, 997, 997 * a + b, 997 * b);
        cam(ups + "rise 1 1/2 1;fall 1 1/2 1;" + downs, 9);
        check.refuses("1,994 b", Check.REFUSED, () -> house.lift(3 * 997 + 1, 997, 0));
        check.refuses("1,994 b", Check.REFUSED, () -> house.lift(4 * 997 + 996, 997, 0));
        lift(4, 1, 2 * a + b, 2 * b);
        // What came before, and 571 / 997, come to 10^15 / (997 b); with the others and 360 / 997 to one more.
        cam("fall 1 1 1;rise 1 3133/9973 1;rise 1 3815/9967 1;rise 1 7408/9949 1;rise 1 1 1;"
                + "fall 1 1 1;fall 1 7408/9949 1;fall 1 3815/9967 1;fall 1 3133/9973 1;rise 351 1 1;", 10);
        lift(4 * 997 + 571, 997, LIMIT, 997 * b);
        cam("fall 1 1 1;rise 1 5026/9973 1;rise 1 2646/9967 1;rise 1 8792/9949 1;rise 1 1 1;"
                + "fall 1 1 1;fall 1 8792/9949 1;fall 1 2646/9967 1;fall 1 5026/9973 1;rise 351 1 1;", 10);
        check.refuses("10^15 + 1", Check.REFUSED, () -> house.lift(4 * 997 + 360, 997, 0));
    }

    /** "p / q, q above 0, in lowest terms (0: 0 / 1)". */
    private static void lowestTerms() {
        cam("fall 180 60 1;rise 180 60/1 1;", 2);
        lift(0, 1000, 0, 1);
        lift(500, 1000, -1, 6);
        lift(90000, 1000, -30, 1);
        cam("rise 90 6/4 1;fall 90 3/2 1;rise 90 9999/9999 1;fall 90 1 1;", 4);
        lift(90, 1, 3, 2);
        lift(180, 1, 0, 1);
        lift(270, 1, 1, 1);
    }

    /** "what 0 SMOOTH, 1, 2 STEEPEST's p, q .., 3 how many STATEMENTS. Bad". */
    private static void camAboutRange() {
        cam("dwell 360;", 1);
        check.range("camAbout what", 0, 3, what -> house.camAbout(what));
    }

    /** "missing." */
    private static void camAboutMissing() {
        house = new MechanismHouse();
        for (int what = 0; what <= 3; what++) {
            final int asked = what;
            check.refuses("camAbout(" + what + ")", Check.MISSING, () -> house.camAbout(asked));
        }
        check.outside("bad ahead of missing", 0, 3, Check.BAD, what -> house.camAbout(what));
    }

    private static void about(String text, long smooth, long p, long q) {
        cam(text, text.split(";").length);
        check.due("SMOOTH of " + text, house.camAbout(0), smooth);
        check.due("STEEPEST's p of " + text, house.camAbout(1), p);
        check.due("STEEPEST's q of " + text, house.camAbout(2), q);
    }

    /** "the greatest of L / W times 1, 2, 15 / 8, 35 / 16 by law" and "(0 / 1 with dwells alone)". */
    private static void steepest() {
        about("dwell 360;", 2, 0, 1);
        about("dwell 1;dwell 359;", 2, 0, 1);
        about("rise 1 60 1;fall 359 60 1;", 0, 60, 1);
        about("rise 1 60 2;fall 359 60 2;", 1, 120, 1);
        about("rise 1 60 3;fall 359 60 3;", 2, 225, 2);
        about("rise 1 60 4;fall 359 60 4;", 2, 525, 4);
        about("fall 1 60 4;rise 359 60 4;", 2, 525, 4);
        about("rise 180 1/9999 4;fall 180 1/9999 4;", 2, 7, 5759424);
        // Laws against each other at one L / W; of equal ones one is told.
        about("rise 90 1 1;rise 90 1 2;rise 90 1 3;fall 90 3 1;", 0, 1, 30);
        about("rise 90 1 2;rise 90 1 3;dwell 90;fall 90 2 1;", 0, 1, 45);
        about("rise 90 1 2;rise 90 1 4;dwell 1;fall 179 2 3;", 1, 7, 288);
        about("rise 90 1 3;rise 90 1 2;dwell 1;fall 179 2 3;", 1, 1, 45);
        // 9998 / 9999 by 1 is a little less than 1 by 1.
        about("rise 1 1 1;rise 1 9998/9999 1;fall 178 1 1;fall 180 9998/9999 1;", 0, 1, 1);
        about("rise 1 9998/9999 1;rise 1 9997/9998 1;fall 178 9998/9999 1;fall 180 9997/9998 1;", 0, 9998, 9999);
    }

    /** "SMOOTH: 0, if somewhere the slope .. jumps; 1, if not but the bend .. does; else 2 (the end meets the beginning)". */
    private static void smooth() {
        about("rise 180 1 3;fall 180 1 3;", 2, 1, 96);
        about("rise 120 1 3;dwell 120;fall 120 1 4;", 2, 7, 384);
        about("rise 180 1 3;fall 180 1 2;", 1, 1, 90);
        about("rise 180 1 2;fall 180 1 2;", 1, 1, 90);
        about("rise 180 1 3;fall 180 1 1;", 0, 1, 96);
        // One slope over two STATEMENTS: it jumps elsewhere, at the last where the end meets the beginning.
        about("rise 90 1 1;rise 90 1 1;fall 90 1 1;fall 90 1 1;", 0, 1, 90);
        about("rise 90 1 1;rise 90 1 2;fall 180 2 4;", 0, 7, 288);
        // Bends that would meet from one law 2 to the next; each has its jump in its middle.
        about("rise 90 1 2;fall 180 2 2;rise 90 1 2;", 1, 1, 45);
    }
}
