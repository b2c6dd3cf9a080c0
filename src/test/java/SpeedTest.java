/** Promises 15 to 20: speed, pole, load, mass, moment, middle. */
public final class SpeedTest {
    private static final Check check = new Check();
    private static final long ONE = 65536;
    private static final String MACHINE = "fix A 0 0;fix B 4 0;crank C A 2 0 1 0;dyad D C B 3 3 +;body E C D 1/2 1/3;"
            + "fix F 0 -2;fix G 6 -2;slide H D 8 F G +;cross I A D F G;crank J D 1 1 -2 100;cross K C D F G;";
    private static final String ROCKER = "fix A 0 0;fix B 4 0;crank C A 3 0 1 0;dyad D C B 2 2 ?;";

    public static void main(String[] args) {
        cranks();
        machine();
        againstMotion();
        openSpeeds();
        poles();
        loads();
        moments();
        masses();
        middles();
        wrong();
        check.close();
    }

    private static MechanismHouse machineAt() {
        MechanismHouse house = Check.linked(MACHINE);
        house.input(0, 100);
        house.input(1, 40);
        return house;
    }

    private static void speed(MechanismHouse house, int i, int p, long[] want) {
        for (int k = 0; k < 4; k++) {
            check.due("speed(0, " + i + ", " + p + ", " + k / 2 + ", " + k % 2 + ")",
                    house.speed(0, i, p, k / 2, k % 2), want[k]);
        }
    }

    private static void cranks() {
        MechanismHouse house = Check.linked("fix A 1 1;crank B A 5 0 1 0;crank C A 1/2 0 -3 0;crank D B 1 1 2 0;"
                + "crank E A 2 0 0 0;crank F A 2 0 1 256;");
        speed(house, 0, 0, new long[] {0, 0, 0, 0});
        speed(house, 0, 1, new long[] {0, 0, 5 * ONE, 5 * ONE});
        speed(house, 1, 1, new long[] {0, 0, 0, 0});
        speed(house, 0, 2, new long[] {0, 0, -3 * ONE / 2, -3 * ONE / 2});
        speed(house, 0, 3, new long[] {0, 0, 5 * ONE, 5 * ONE});
        speed(house, 1, 3, new long[] {0, 0, 2 * ONE, 2 * ONE});
        speed(house, 0, 4, new long[] {0, 0, 0, 0});
        speed(house, 0, 5, new long[] {-2 * ONE, -2 * ONE, 0, 0});
    }

    private static void machine() {
        MechanismHouse house = machineAt();
        speed(house, 0, 2, new long[] {-88844, -88842, 96366, 96368});
        speed(house, 0, 3, new long[] {-25602, -25558, -175, -171});
        speed(house, 0, 4, new long[] {-25046, -25017, 69173, 69196});
        speed(house, 0, 7, new long[] {-25472, -25411, 0, 0});
        speed(house, 0, 8, new long[] {16880, 16921, 0, 0});
        speed(house, 0, 9, new long[] {-25602, -25558, -175, -171});
        speed(house, 0, 10, new long[] {-665898, -665401, 0, 0});
        speed(house, 1, 9, new long[] {16308, 16324, -130060, -130044});
        speed(house, 2, 9, new long[] {0, 0, 0, 0});
        speed(house, 3, 9, new long[] {0, 0, 0, 0});
        check.due("the places stay", house.count(2), 100);
    }

    /** Each speed against how far the POINT goes from the place before to the place behind. */
    private static void againstMotion() {
        String base = "fix A 0 0;fix B 9 1;crank C A 2 0 1 0;crank D B 3 0 -1 100;crank E B 6 0 2 700;";
        String[] lasts = {"slide P C 14 D E +;", "slide P C 14 D E -;", "cross P A C D E;", "body P C E 1/3 -1/2;",
            "dyad P C D 12 11 -;", "dyad P E C 15 14 +;", "cross P C D E B;", "crank P C 2 0 -3 9;"};
        for (int last = 0; last < lasts.length; last++) {
            MechanismHouse house = null;
            int compared = 0;
            for (int k = 1; k < 1023; k += 7) {
                // An object answers 512 calls, no more.
                if (k % 10 == 1) {
                    house = Check.linked(base + lasts[last]);
                }
                for (int axis = 0; axis < 2; axis++) {
                    compared += isCompared(house, k, axis, lasts[last]) ? 1 : 0;
                }
            }
            check.due("how many are compared of " + lasts[last], compared >= 60 ? 1 : 0, 1);
        }
    }

    private static boolean isSure(MechanismHouse house, int k) {
        house.input(0, k);
        return house.ways() == 1 && house.way(0, 1) == 1;
    }

    private static boolean isCompared(MechanismHouse house, int k, int axis, String text) {
        if (!isSure(house, k - 1) || !isSure(house, k + 1) || !isSure(house, k)) {
            return false;
        }
        double speed;
        try {
            speed = (house.speed(0, 0, 5, axis, 0) + house.speed(0, 0, 5, axis, 1)) / 2.0;
        } catch (java.util.NoSuchElementException e) {
            return false;
        }
        house.input(0, k - 1);
        double before = house.at(0, 5, axis, 0) + house.at(0, 5, axis, 1);
        house.input(0, k + 1);
        double behind = house.at(0, 5, axis, 0) + house.at(0, 5, axis, 1);
        double gone = (behind - before) / 2 / (angle(k + 1) - angle(k - 1));
        if (Math.abs(speed) > 20 * ONE) {
            return false;
        }
        boolean like = Math.abs(gone - speed) < 0.06 * ONE + 0.05 * Math.abs(speed);
        check.due("speed " + speed + " at " + k + ", gone " + gone + ", of " + text, like ? 1 : 0, 1);
        return true;
    }

    private static double angle(int k) {
        return k / 256 * Math.PI / 2 + 2 * Math.atan(k % 256 / 256.0);
    }

    private static void openSpeeds() {
        // A stretched dyad is SURE here, but its speed isn't told; nor that of what hangs on it.
        MechanismHouse house = Check.linked("fix A 0 0;fix B 8 0;dyad C A B 4 4 +;crank D C 1 0 1 0;fix E 1 1;");
        check.due("SURE", house.way(0, 1), 1);
        check.refuses("an OPEN speed", Check.MISSING, () -> house.speed(0, 0, 2, 0, 0));
        check.refuses("what hangs on it", Check.MISSING, () -> house.speed(0, 0, 3, 1, 1));
        check.due("another one", house.speed(0, 0, 4, 0, 0), 0);
        house.load(4, 1, 1);
        check.due("a moment without it", house.moment(0, 0, 0), 0);
        house.load(3, 0, 1);
        check.refuses("a moment with it", Check.MISSING, () -> house.moment(0, 0, 0));
        MechanismHouse not = Check.linked(ROCKER);
        not.input(0, 500);
        check.refuses("not SURE", Check.REFUSED, () -> not.speed(0, 0, 0, 0, 0));
        check.refuses("missing ahead of REFUSED", Check.MISSING, () -> not.speed(0, 0, 4, 0, 0));
        check.refuses("bad ahead of both", Check.BAD, () -> not.speed(0, 0, 4, 0, 2));
    }

    private static void poles() {
        MechanismHouse house = machineAt();
        long[] want = {260009, 261028, 239704, 240653};
        for (int k = 0; k < 4; k++) {
            check.due("pole " + k, house.pole(0, 0, 2, 3, k / 2, k % 2), want[k]);
        }
        check.refuses("pole of a fixed one", Check.MISSING, () -> house.pole(0, 0, 0, 3, 0, 0));
        check.refuses("pole of one and itself", Check.MISSING, () -> house.pole(0, 0, 2, 2, 0, 0));
        check.refuses("pole for an INPUT at rest", Check.MISSING, () -> house.pole(0, 2, 2, 3, 0, 0));
        // C and D go round A together: the pole is A.
        MechanismHouse wheel = Check.linked("fix A 1 2;crank C A 3 3 1 0;crank D A 4 3 1 256;");
        for (int k = 0; k < 4; k++) {
            check.due("pole of the wheel " + k, wheel.pole(0, 3, 1, 2, k / 2, k % 2), (1 + k / 2) * ONE);
        }
    }

    private static void loads() {
        MechanismHouse house = Check.linked("fix A 0 0;crank B A 2 0 1 0;");
        house.load(1, 1000, -1000);
        check.due("moment", house.moment(0, 0, 0), 2000 * ONE);
        house.load(1, 0, 7);
        check.due("in place of the one before", house.moment(0, 0, 1), -14 * ONE);
        check.refuses("load fx", Check.BAD, () -> house.load(1, 1001, 0));
        check.refuses("load fx", Check.BAD, () -> house.load(1, -1001, 0));
        check.refuses("load fy", Check.BAD, () -> house.load(9, 0, 1001));
        check.refuses("load fy", Check.BAD, () -> house.load(1, 0, -1001));
        check.refuses("load p", Check.MISSING, () -> house.load(2, 0, 0));
        check.refuses("load p", Check.MISSING, () -> house.load(-1, 0, 0));
        check.due("it stays", house.moment(0, 0, 1), -14 * ONE);
        house.load(1, 0, 0);
        check.due("none", house.moment(0, 0, 0), 0);
    }

    private static void moments() {
        MechanismHouse house = machineAt();
        house.load(2, 3, -4);
        house.load(7, 10, 0);
        house.load(9, -1, 1000);
        long[] want = {1051498, 1056166, 130060308, 130076324, 0, 0};
        for (int k = 0; k < 6; k++) {
            check.due("moment " + k, house.moment(0, k / 2, k % 2), want[k]);
        }
        check.due("moment at INPUT 3", house.moment(0, 3, 0), 0);
        // 1,000 times 60 times 8 is above 2^15: OPEN.
        MechanismHouse strong = Check.linked("fix A 0 0;crank B A 60 0 8 0;");
        strong.load(1, 0, 1000);
        check.refuses("an OPEN moment", Check.MISSING, () -> strong.moment(0, 0, 0));
        strong.load(1, 0, 68);
        check.due("it fits", strong.moment(0, 0, 0), -68 * 480 * ONE);
        MechanismHouse edge = Check.linked("fix A 0 0;crank B A 8 0 8 0;");
        edge.load(1, 0, 512);
        check.due("2^31 isn't OPEN", edge.moment(255, 0, 0), -(1L << 31));
        edge.load(1, 0, -512);
        check.due("nor is it below 0", edge.moment(0, 0, 1), 1L << 31);
        edge.load(1, 0, 513);
        check.refuses("more is", Check.MISSING, () -> edge.moment(0, 0, 0));
        MechanismHouse not = Check.linked(ROCKER);
        not.input(0, 500);
        check.refuses("not SURE", Check.REFUSED, () -> not.moment(0, 0, 0));
        check.refuses("moment w", Check.BAD, () -> not.moment(256, 0, 0));
        check.refuses("moment i", Check.BAD, () -> not.moment(0, 4, 0));
        check.refuses("moment side", Check.BAD, () -> not.moment(0, 0, 2));
    }

    private static void masses() {
        MechanismHouse house = Check.linked("fix A 0 0;fix B 2 0;");
        house.mass(1, 1000);
        check.due("middle", house.middle(0, 0, 0), 2 * ONE);
        house.mass(0, 1000);
        check.due("middle of two", house.middle(0, 0, 0), ONE);
        house.mass(1, 0);
        check.due("in place of the one before", house.middle(0, 0, 0), 0);
        check.refuses("mass m", Check.BAD, () -> house.mass(0, 1001));
        check.refuses("mass m", Check.BAD, () -> house.mass(5, -1));
        check.refuses("mass p", Check.MISSING, () -> house.mass(2, 1));
        check.refuses("mass p", Check.MISSING, () -> house.mass(-1, 1));
        house.mass(0, 0);
        check.refuses("no mass", Check.MISSING, () -> house.middle(0, 0, 0));
    }

    private static void middles() {
        MechanismHouse house = machineAt();
        house.mass(0, 5);
        house.mass(2, 3);
        house.mass(3, 7);
        long[] want = {140980, 140992, 109512, 109523};
        for (int k = 0; k < 4; k++) {
            check.due("middle " + k, house.middle(0, k / 2, k % 2), want[k]);
        }
        MechanismHouse thirds = Check.linked("fix A 1 -1;fix B 0 0;");
        thirds.mass(0, 1);
        thirds.mass(1, 2);
        check.due("a third, down", thirds.middle(0, 0, 0), 21845);
        check.due("a third, up", thirds.middle(0, 0, 1), 21846);
        check.due("less a third, down", thirds.middle(0, 1, 0), -21846);
        check.due("less a third, up", thirds.middle(0, 1, 1), -21845);
        MechanismHouse heavy = Check.linked("fix A 60 1;fix B 0 0;");
        heavy.mass(0, 1000);
        check.refuses("the box asked for is OPEN", Check.MISSING, () -> heavy.middle(0, 0, 0));
        check.due("the other one isn't", heavy.middle(0, 1, 0), ONE);
        MechanismHouse not = Check.linked(ROCKER);
        not.input(0, 500);
        check.refuses("no mass ahead of REFUSED", Check.MISSING, () -> not.middle(0, 0, 0));
        not.mass(0, 1);
        check.refuses("not SURE", Check.REFUSED, () -> not.middle(0, 0, 0));
        check.refuses("middle w", Check.BAD, () -> not.middle(-1, 0, 0));
        check.refuses("middle axis", Check.BAD, () -> not.middle(0, 2, 0));
        check.refuses("middle side", Check.BAD, () -> not.middle(0, 0, -1));
    }

    private static void wrong() {
        MechanismHouse house = Check.linked(MACHINE);
        house.input(0, 100);
        check.due("speed of 255", house.speed(255, 0, 2, 1, 0), 96366);
        check.due("pole of 255", house.pole(255, 0, 2, 3, 0, 0), 260009);
        house.mass(1, 1);
        check.due("middle of 255", house.middle(255, 0, 0), 4 * ONE);
        check.refuses("speed w", Check.BAD, () -> house.speed(256, 0, 0, 0, 0));
        check.refuses("speed i", Check.BAD, () -> house.speed(0, -1, 0, 0, 0));
        check.refuses("speed axis", Check.BAD, () -> house.speed(0, 0, 0, -1, 0));
        check.refuses("speed side", Check.BAD, () -> house.speed(0, 0, 99, 0, 2));
        check.refuses("speed p", Check.MISSING, () -> house.speed(0, 0, 11, 0, 0));
        check.refuses("speed p", Check.MISSING, () -> house.speed(0, 0, -1, 0, 0));
        check.refuses("pole w", Check.BAD, () -> house.pole(-1, 0, 2, 3, 0, 0));
        check.refuses("pole i", Check.BAD, () -> house.pole(0, 4, 2, 3, 0, 0));
        check.refuses("pole axis", Check.BAD, () -> house.pole(0, 0, 2, 3, 2, 0));
        check.refuses("pole side", Check.BAD, () -> house.pole(0, 0, 2, 99, 0, -1));
        check.refuses("pole p", Check.MISSING, () -> house.pole(0, 0, 11, 3, 0, 0));
        check.refuses("pole q", Check.MISSING, () -> house.pole(0, 0, 2, -1, 0, 0));
        MechanismHouse not = Check.linked(ROCKER);
        not.input(0, 500);
        check.refuses("pole not SURE", Check.REFUSED, () -> not.pole(0, 0, 0, 1, 0, 0));
        check.refuses("pole missing first", Check.MISSING, () -> not.pole(0, 0, 0, 4, 0, 0));
    }
}
