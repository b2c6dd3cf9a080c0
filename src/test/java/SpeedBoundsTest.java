/**
 * The boundary sentences on SPEEDS and of promises 15 to 20: speed, pole, load, mass, moment, middle. Above each test
 * stands the sentence that it holds.
 */
public final class SpeedBoundsTest {
    private static final Check check = new Check();
    private static final long ONE = 65536;
    private static final long FAR = 1L << 31;
    private static final String WHEEL = "fix A 1 2;crank C A 3 3 1 0;crank D A 4 3 1 256;";
    // Not SURE at 500 (NOT), 513 (DOUBTFUL) and 0 (OPEN), in this order.
    private static final String[] UNSURE = {"fix A 0 0;fix B 4 0;crank C A 3 0 1 0;dyad D C B 2 2 +;",
        "fix A 0 0;fix B 3 0;crank C A 1 0 1 0;dyad D C B 5/2 3/2 +;",
        "fix A 0 0;fix B 1 0;crank C A 1 0 1 0;dyad D C B 9/8 9/8 +;"};
    private static final int[] UNSURE_PLACES = {500, 513, 0};

    public static void main(String[] args) {
        speedRange();
        speedMissing();
        onlyOfSureWays();
        restingPoints();
        crankPowers();
        openByZero();
        openAbove();
        openPairs();
        poleRange();
        poleMissing();
        poleOfParallels();
        loadRange();
        loadInPlace();
        massRange();
        massInPlace();
        momentRange();
        momentLeavesOut();
        momentAbove();
        momentOfOpen();
        middleRange();
        middleOfNoMass();
        middleRounds();
        middleAbove();
        check.close();
    }

    private static void box(String call, long lesser, long greater, long wantLesser, long wantGreater) {
        check.due(call + ", lesser", lesser, wantLesser);
        check.due(call + ", greater", greater, wantGreater);
    }

    private static void speed(MechanismHouse house, int i, int p, long x, long y) {
        String call = "speed for " + i + " of " + p;
        box(call + ", x", house.speed(0, i, p, 0, 0), house.speed(0, i, p, 0, 1), x, x);
        box(call + ", y", house.speed(0, i, p, 1, 0), house.speed(0, i, p, 1, 1), y, y);
    }

    /** "SPEED of POINT p for INPUT i. Bad": w, i, axis, side. */
    private static void speedRange() {
        MechanismHouse house = Check.linked(WHEEL);
        check.range("speed w", 0, 255, w -> house.speed(w, 3, 1, 1, 0));
        check.range("speed i", 0, 3, i -> house.speed(0, i, 1, 1, 0));
        check.range("speed axis", 0, 1, axis -> house.speed(0, 3, 1, axis, 0));
        check.range("speed side", 0, 1, side -> house.speed(0, 3, 1, 1, side));
        check.due("bits of no ?", house.speed(255, 3, 1, 1, 0), 3 * ONE);
    }

    /** "missing: POINT". */
    private static void speedMissing() {
        MechanismHouse house = Check.linked(WHEEL);
        check.good("the first", () -> house.speed(0, 0, 0, 0, 0));
        check.good("the last", () -> house.speed(0, 0, 2, 0, 0));
        check.outside("speed p", 0, 2, Check.MISSING, p -> house.speed(0, 0, p, 0, 0));
        check.refuses("of none", Check.MISSING, () -> new MechanismHouse().speed(0, 0, 0, 0, 0));
    }

    /** "boxes (only of SURE ways)" and "REFUSED: w isn't SURE now", of speed, pole, moment and middle. */
    private static void onlyOfSureWays() {
        for (int k = 0; k < UNSURE.length; k++) {
            MechanismHouse house = Check.linked(UNSURE[k]);
            house.mass(0, 1);
            house.input(0, 100);
            check.good("speed at 100", () -> house.speed(0, 0, 3, 0, 0));
            check.good("pole at 100", () -> house.pole(0, 0, 2, 3, 0, 0));
            check.good("moment at 100", () -> house.moment(0, 0, 0));
            check.good("middle at 100", () -> house.middle(0, 0, 0));
            house.input(0, UNSURE_PLACES[k]);
            check.refuses("speed", Check.REFUSED, () -> house.speed(0, 0, 0, 0, 0));
            check.refuses("pole", Check.REFUSED, () -> house.pole(0, 0, 2, 3, 0, 0));
            check.refuses("moment", Check.REFUSED, () -> house.moment(0, 0, 0));
            check.refuses("middle", Check.REFUSED, () -> house.middle(0, 0, 0));
        }
        // Of two ways only the one asked for counts.
        MechanismHouse one = Check.linked("fix A 0 0;fix B 6 0;dyad C A B 5 5 ?;fix G 3 10;dyad D C G 2 5 +;");
        check.good("way 0", () -> one.speed(0, 0, 4, 0, 0));
        check.refuses("way 1", Check.REFUSED, () -> one.speed(1, 0, 4, 0, 0));
        check.good("way 254", () -> one.moment(254, 0, 0));
        check.refuses("way 255", Check.REFUSED, () -> one.moment(255, 0, 0));
    }

    /** "fix 0, 0" and "if its I is i, else 0". */
    private static void restingPoints() {
        MechanismHouse house = Check.linked(WHEEL);
        for (int i = 0; i < 4; i++) {
            speed(house, i, 0, 0, 0);
            speed(house, i, 1, 0, i == 3 ? 3 * ONE : 0);
            speed(house, i, 2, i == 3 ? -4 * ONE : 0, 0);
        }
        // Where a crank was told before, a fixed POINT rests.
        MechanismHouse other = Check.linked("crank B A 2 0 1 0;fix A 0 0;");
        speed(other, 0, 0, 0, 2 * ONE);
        for (int k = 0; k < 3; k++) {
            Check.type(other, "fix A 0 0;crank B A 2 0 1 0;");
            other.linkage();
            speed(other, 0, 0, 0, 0);
            speed(other, 0, 1, 0, 2 * ONE);
        }
    }

    /** "N R TURNED(the turned DIR)": N -8, 0 and 8 with R 60 and 1 / 9,999. */
    private static void crankPowers() {
        MechanismHouse house = Check.linked("fix A 0 0;crank B A 60 0 8 0;crank C A 60 0 -8 0;crank D A 60 0 0 0;"
                + "crank E A 1/9999 0 8 0;crank F A 1/9999 0 -8 0;");
        speed(house, 0, 1, 0, 480 * ONE);
        speed(house, 0, 2, 0, -480 * ONE);
        speed(house, 0, 3, 0, 0);
        // 8 / 9,999 as a box: 52 .. 53 parts; not 8 times the box of 1 / 9,999.
        box("8 / 9999", house.speed(0, 0, 4, 1, 0), house.speed(0, 0, 4, 1, 1), 52, 53);
        box("-8 / 9999", house.speed(0, 0, 5, 1, 0), house.speed(0, 0, 5, 1, 1), -53, -52);
    }

    /** "OPEN ones as before": z holds 0 (a stretched dyad, a slide square to its line); and what hangs on those. */
    private static void openByZero() {
        MechanismHouse dyad = Check.linked("fix A 0 0;fix B 8 0;dyad C A B 4 4 +;crank D C 1 0 1 0;body E A C 0 0;"
                + "crank F A 1 0 1 0;");
        check.due("SURE", dyad.way(0, 1), 1);
        for (int p = 2; p <= 4; p++) {
            final int point = p;
            check.refuses("x of " + p, Check.MISSING, () -> dyad.speed(0, 0, point, 0, 0));
            check.refuses("y of " + p, Check.MISSING, () -> dyad.speed(0, 0, point, 1, 1));
        }
        speed(dyad, 0, 5, 0, ONE);
        MechanismHouse slide = Check.linked("fix A 0 1;fix D 0 0;fix E 1 0;slide C A 1 D E +;cross F A C D E;");
        check.due("SURE", slide.way(0, 1), 1);
        check.refuses("of the slide", Check.MISSING, () -> slide.speed(0, 0, 3, 0, 0));
        check.refuses("of the cross on it", Check.MISSING, () -> slide.speed(0, 0, 4, 0, 0));
        speed(slide, 0, 0, 0, 0);
    }

    /** "A box is OPEN if a number of it is above 2^31 in size": a speed of 2^31 is told, a greater one isn't. */
    private static void openAbove() {
        MechanismHouse house = Check.linked("fix A 0 0;crank B A 8 0 8 0;body C A B 32 0;body D A C 16 0;"
                + "body E A C 9985/624 0;body F A C -16 0;");
        check.due("SURE", house.way(0, 1), 1);
        speed(house, 0, 3, 0, FAR);
        speed(house, 0, 5, 0, -FAR);
        check.refuses("a little more", Check.MISSING, () -> house.speed(0, 0, 4, 1, 0));
        speed(house, 1, 4, 0, 0);
    }

    /** "A POINT with an OPEN box is OPEN": the axis that would be told isn't either. */
    private static void openPairs() {
        MechanismHouse house = Check.linked("fix A 0 0;crank B A 8 0 8 0;body C A B 32 0;body E A C 17 0;");
        check.due("SURE", house.way(0, 1), 1);
        check.refuses("the axis above 2^31", Check.MISSING, () -> house.speed(0, 0, 3, 1, 0));
        check.refuses("the other axis", Check.MISSING, () -> house.speed(0, 0, 3, 0, 0));
    }

    /** "The pole of POINTS p and q for INPUT i .. Bad": w, i, axis, side. */
    private static void poleRange() {
        MechanismHouse house = Check.linked(WHEEL);
        check.range("pole w", 0, 255, w -> house.pole(w, 3, 1, 2, 0, 0));
        check.outside("pole i", 0, 3, Check.BAD, i -> house.pole(0, i, 1, 2, 0, 0));
        check.range("pole axis", 0, 1, axis -> house.pole(0, 3, 1, 2, axis, 0));
        check.range("pole side", 0, 1, side -> house.pole(0, 3, 1, 2, 0, side));
        box("pole x", house.pole(255, 3, 1, 2, 0, 0), house.pole(0, 3, 1, 2, 0, 1), ONE, ONE);
        box("pole y", house.pole(255, 3, 2, 1, 1, 0), house.pole(0, 3, 2, 1, 1, 1), 2 * ONE, 2 * ONE);
    }

    /** "missing: POINT, OPEN". */
    private static void poleMissing() {
        MechanismHouse house = Check.linked(WHEEL);
        check.outside("pole p", 0, 2, Check.MISSING, p -> house.pole(0, 3, p, 2, 0, 0));
        check.outside("pole q", 0, 2, Check.MISSING, q -> house.pole(0, 3, 1, q, 0, 0));
        check.refuses("a fixed one", Check.MISSING, () -> house.pole(0, 3, 0, 2, 0, 0));
        check.refuses("to a fixed one", Check.MISSING, () -> house.pole(0, 3, 2, 0, 1, 0));
        check.refuses("at rest", Check.MISSING, () -> house.pole(0, 2, 1, 2, 0, 0));
        check.refuses("one and itself", Check.MISSING, () -> house.pole(0, 3, 1, 1, 0, 0));
        MechanismHouse open = Check.linked("fix A 0 0;fix B 8 0;dyad C A B 4 4 +;crank D A 1 0 1 0;");
        check.refuses("an OPEN speed", Check.MISSING, () -> open.pole(0, 0, 2, 3, 0, 0));
        check.refuses("an OPEN speed", Check.MISSING, () -> open.pole(0, 0, 3, 2, 0, 0));
    }

    /** "or if what is divided by holds 0": two speeds side by side have no pole; a little turned they have. */
    private static void poleOfParallels() {
        MechanismHouse house = Check.linked("fix A 0 0;crank B A 1 0 1 0;crank C A 2 0 1 0;crank D A 2 0 1 512;"
                + "crank E A 2 0 1 1;");
        check.refuses("side by side", Check.MISSING, () -> house.pole(0, 0, 1, 2, 0, 0));
        check.refuses("against each other", Check.MISSING, () -> house.pole(0, 0, 1, 3, 1, 1));
        check.good("a little turned", () -> house.pole(0, 0, 1, 4, 0, 0));
    }

    /** "A load on POINT p (-1,000 .. 1,000 each) .. Bad, missing." */
    private static void loadRange() {
        MechanismHouse house = Check.linked(WHEEL);
        check.range("load fx", -1000, 1000, fx -> house.load(1, fx, 0));
        check.range("load fy", -1000, 1000, fy -> house.load(1, 0, fy));
        check.good("the first", () -> house.load(0, 0, 0));
        check.good("the last", () -> house.load(2, 0, 0));
        check.outside("load p", 0, 2, Check.MISSING, p -> house.load(p, 0, 0));
        check.refuses("bad ahead of missing", Check.BAD, () -> house.load(3, -1001, 0));
        check.refuses("of none", Check.MISSING, () -> new MechanismHouse().load(0, 0, 0));
    }

    /** "in place of the one before": not added; a load that throws leaves it. */
    private static void loadInPlace() {
        MechanismHouse house = Check.linked(WHEEL);
        house.load(1, 0, 1000);
        check.due("the first", house.moment(0, 3, 0), -3000 * ONE);
        house.load(1, 5, -1000);
        check.due("in its place", house.moment(0, 3, 0), 3000 * ONE);
        check.refuses("a bad one", Check.BAD, () -> house.load(1, 0, 1001));
        check.refuses("a bad one", Check.BAD, () -> house.load(1, 1001, 7));
        check.due("it stays", house.moment(0, 3, 0), 3000 * ONE);
        house.load(2, 1, 0);
        check.due("two of them", house.moment(0, 3, 0), 3004 * ONE);
        house.load(1, 0, 0);
        check.due("0, 0 takes it away", house.moment(0, 3, 1), 4 * ONE);
    }

    /** "A mass of POINT p (0 .. 1,000). Bad, missing." */
    private static void massRange() {
        MechanismHouse house = Check.linked(WHEEL);
        check.range("mass m", 0, 1000, m -> house.mass(1, m));
        check.good("the first", () -> house.mass(0, 0));
        check.good("the last", () -> house.mass(2, 0));
        check.outside("mass p", 0, 2, Check.MISSING, p -> house.mass(p, 0));
        check.refuses("bad ahead of missing", Check.BAD, () -> house.mass(3, 1001));
        check.refuses("of none", Check.MISSING, () -> new MechanismHouse().mass(0, 0));
    }

    /** The mass told last counts; one that throws leaves it. */
    private static void massInPlace() {
        MechanismHouse house = Check.linked("fix A 0 0;fix B 4 0;");
        house.mass(0, 1);
        house.mass(1, 1000);
        house.mass(1, 1);
        check.due("one and one", house.middle(0, 0, 0), 2 * ONE);
        check.refuses("a bad one", Check.BAD, () -> house.mass(1, -1));
        check.due("it stays", house.middle(0, 0, 0), 2 * ONE);
        house.mass(0, 0);
        check.due("0 takes it away", house.middle(0, 0, 0), 4 * ONE);
    }

    /** "The moment at INPUT i .. Bad": w, i, side. */
    private static void momentRange() {
        MechanismHouse house = Check.linked(WHEEL);
        house.load(1, 0, 1);
        check.range("moment w", 0, 255, w -> house.moment(w, 3, 0));
        check.range("moment i", 0, 3, i -> house.moment(0, i, 0));
        check.range("moment side", 0, 1, side -> house.moment(0, 3, side));
        check.due("bits of no ?", house.moment(254, 3, 0), -3 * ONE);
        check.due("of no POINTS", new MechanismHouse().moment(0, 0, 1), 0);
        // The first POINT and the last one of 40.
        StringBuilder text = new StringBuilder("crank B A 2 0 1 0;fix A 0 0;");
        for (int k = 0; k < 38; k++) {
            text.append("crank P").append((char) ('a' + k / 26)).append((char) ('a' + k % 26)).append(" A 3 0 1 0;");
        }
        MechanismHouse forty = Check.linked(text.toString());
        forty.load(0, 0, 10);
        check.due("the first", forty.moment(0, 0, 0), -20 * ONE);
        forty.load(39, 0, 100);
        check.due("the last, too", forty.moment(0, 0, 1), -320 * ONE);
        forty.mass(0, 1);
        forty.mass(39, 3);
        check.due("their middle", forty.middle(0, 0, 0), 11 * ONE / 4);
    }

    /** "(.. POINTS with 0, 0 are left out)": an OPEN speed without a load doesn't matter. */
    private static void momentLeavesOut() {
        MechanismHouse house = Check.linked("fix A 0 0;fix B 8 0;dyad C A B 4 4 +;crank D A 1 0 1 0;");
        check.due("no loads", house.moment(0, 0, 0), 0);
        house.load(3, 7, 5);
        check.due("one load", house.moment(0, 0, 0), -5 * ONE);
        house.load(2, 1, 0);
        check.refuses("fx alone", Check.MISSING, () -> house.moment(0, 0, 0));
        house.load(2, 0, -1);
        check.refuses("fy alone", Check.MISSING, () -> house.moment(0, 0, 1));
        house.load(2, 0, 0);
        check.due("left out again", house.moment(0, 0, 0), -5 * ONE);
    }

    /** "missing: OPEN": 2^31 in all is told, a little more isn't; a term above it, too. */
    private static void momentAbove() {
        MechanismHouse house = Check.linked("fix A 0 0;crank B A 8 0 8 0;crank C A 8 0 4 0;crank D A 1 0 1 0;");
        house.load(1, 0, 512);
        box("2^31", house.moment(0, 0, 0), house.moment(0, 0, 1), -FAR, -FAR);
        house.load(3, 0, 1);
        check.refuses("one more", Check.MISSING, () -> house.moment(0, 0, 0));
        house.load(3, 0, -1);
        check.due("one less", house.moment(0, 0, 0), ONE - FAR);
        house.load(1, 0, 511);
        house.load(2, 0, 2);
        house.load(3, 0, 0);
        check.due("2^31 by two", house.moment(0, 0, 0), -FAR);
        house.load(1, 0, -512);
        house.load(2, 0, 0);
        box("below 0", house.moment(0, 0, 0), house.moment(0, 0, 1), FAR, FAR);
        house.load(1, 0, 513);
        house.load(2, 0, -1000);
        check.refuses("a term above 2^31", Check.MISSING, () -> house.moment(0, 0, 0));
        // C's speed is -64, 64: a product above 2^31, though it would come to less with the other one.
        MechanismHouse both = Check.linked("fix A 0 0;crank B A 8 0 8 0;body C A B 1 1;");
        both.load(2, 500, 512);
        check.due("a product of 2^31", both.moment(0, 0, 0), -768 * ONE);
        both.load(2, 500, 513);
        check.refuses("one above it", Check.MISSING, () -> both.moment(0, 0, 0));
        both.load(2, 513, 500);
        check.refuses("the first of them", Check.MISSING, () -> both.moment(0, 0, 0));
        both.load(2, 512, 500);
        check.due("the first of them 2^31", both.moment(0, 0, 0), 768 * ONE);
    }

    /** "missing: OPEN": a POINT with a load whose speed is OPEN; for an INPUT at rest it isn't. */
    private static void momentOfOpen() {
        MechanismHouse house = Check.linked("fix A 0 0;crank B A 8 0 8 0;body C A B 32 0;body E A C 17 0;");
        house.load(3, 1, 0);
        check.refuses("OPEN", Check.MISSING, () -> house.moment(0, 0, 0));
        check.due("at rest", house.moment(0, 1, 0), 0);
    }

    /** "The middle of all masses .. Bad": w, axis, side. */
    private static void middleRange() {
        MechanismHouse house = Check.linked(WHEEL);
        house.mass(0, 1);
        check.range("middle w", 0, 255, w -> house.middle(w, 0, 0));
        check.range("middle axis", 0, 1, axis -> house.middle(0, axis, 0));
        check.range("middle side", 0, 1, side -> house.middle(0, 0, side));
        check.due("bits of no ?", house.middle(255, 1, 1), 2 * ONE);
    }

    /** "missing: M 0": no POINTS, no masses, masses of 0; ahead of REFUSED. */
    private static void middleOfNoMass() {
        check.refuses("no POINTS", Check.MISSING, () -> new MechanismHouse().middle(0, 0, 0));
        MechanismHouse house = Check.linked(WHEEL);
        check.refuses("no masses", Check.MISSING, () -> house.middle(0, 0, 0));
        house.mass(1, 0);
        check.refuses("a mass of 0", Check.MISSING, () -> house.middle(0, 0, 0));
        house.mass(1, 1);
        check.due("a mass of 1", house.middle(0, 0, 0), 4 * ONE);
        MechanismHouse not = Check.linked(UNSURE[0]);
        not.input(0, 500);
        check.refuses("ahead of REFUSED", Check.MISSING, () -> not.middle(0, 0, 0));
    }

    /** "(each number / M, down, up)": above and below 0, and where nothing is left. */
    private static void middleRounds() {
        MechanismHouse house = Check.linked("fix A 1 -1;fix B 0 0;");
        house.mass(0, 1);
        house.mass(1, 2);
        box("a third", house.middle(0, 0, 0), house.middle(0, 0, 1), 21845, 21846);
        box("less a third", house.middle(0, 1, 0), house.middle(0, 1, 1), -21846, -21845);
        house.mass(1, 1);
        box("a half", house.middle(0, 0, 0), house.middle(0, 0, 1), 32768, 32768);
        box("less a half", house.middle(0, 1, 0), house.middle(0, 1, 1), -32768, -32768);
        house.mass(0, 1000);
        house.mass(1, 1000);
        box("with the greatest masses", house.middle(0, 0, 0), house.middle(0, 0, 1), 32768, 32768);
    }

    /** "the box asked for is OPEN": a sum of 2^31 isn't; and the other box doesn't matter. */
    private static void middleAbove() {
        MechanismHouse house = Check.linked("fix A 0 0;fix B 32 0;body C A B 2 1/2;body D A B -2 0;fix E 1 0;");
        house.mass(2, 512);
        box("2^31", house.middle(0, 0, 0), house.middle(0, 0, 1), 64 * ONE, 64 * ONE);
        house.mass(2, 513);
        check.refuses("x above it", Check.MISSING, () -> house.middle(0, 0, 0));
        box("y isn't", house.middle(0, 1, 0), house.middle(0, 1, 1), 16 * ONE, 16 * ONE);
        house.mass(2, 512);
        house.mass(4, 1);
        check.refuses("by another POINT", Check.MISSING, () -> house.middle(0, 0, 1));
        house.mass(4, 0);
        house.mass(2, 0);
        house.mass(3, 512);
        box("-2^31", house.middle(0, 0, 0), house.middle(0, 0, 1), -64 * ONE, -64 * ONE);
        house.mass(3, 513);
        check.refuses("below it", Check.MISSING, () -> house.middle(0, 0, 0));
        // POINTS rising: the sum is above 2^31 on the way, though not in all.
        house.mass(2, 600);
        house.mass(3, 600);
        check.refuses("on the way", Check.MISSING, () -> house.middle(0, 0, 0));
        house.mass(2, 500);
        house.mass(3, 500);
        check.due("not on the way", house.middle(0, 0, 0), 0);
        // A product above 2^31, though the sum so far is below 0.
        MechanismHouse left = Check.linked("fix A 0 0;fix B 32 0;body D A B -2 0;body C A B 2 0;");
        left.mass(2, 500);
        left.mass(3, 512);
        check.due("a product of 2^31", left.middle(0, 0, 0), 12 * 64 * ONE / 1012);
        left.mass(3, 513);
        check.refuses("one above it", Check.MISSING, () -> left.middle(0, 0, 0));
    }
}
