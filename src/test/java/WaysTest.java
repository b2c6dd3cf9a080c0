/** Promises 7 to 10: input, ways, way, at. */
public final class WaysTest {
    private static final Check check = new Check();
    private static final long ONE = 65536;

    public static void main(String[] args) {
        inputs();
        cranks();
        dyads();
        slides();
        bodies();
        crossings();
        ways();
        open();
        wrong();
        check.close();
    }

    private static void box(MechanismHouse house, int w, int p, int axis, long lesser, long greater) {
        check.due("at(" + w + ", " + p + ", " + axis + ", 0)", house.at(w, p, axis, 0), lesser);
        check.due("at(" + w + ", " + p + ", " + axis + ", 1)", house.at(w, p, axis, 1), greater);
    }

    private static void inputs() {
        MechanismHouse house = Check.linked("fix A 0 0;crank B A 1 2 1 0;");
        for (int i = 0; i < 4; i++) {
            final int n = i;
            house.input(i, 1023 - i);
            check.due("count(" + (2 + i) + ")", house.count(2 + i), 1023 - i);
            check.refuses("input(i, -1)", Check.BAD, () -> house.input(n, -1));
            check.refuses("input(i, 1024)", Check.BAD, () -> house.input(n, 1024));
            check.due("count(" + (2 + i) + ")", house.count(2 + i), 1023 - i);
        }
        check.refuses("input(-1, 0)", Check.BAD, () -> house.input(-1, 0));
        check.refuses("input(4, 0)", Check.BAD, () -> house.input(4, 0));
        house.input(2, 256);
        box(house, 0, 1, 0, 0, 0);
        box(house, 0, 1, 1, ONE, ONE);
        house.input(2, 512);
        box(house, 0, 1, 0, -ONE, -ONE);
        house.input(2, 768);
        box(house, 0, 1, 1, -ONE, -ONE);
        // D(128): 3 / 5, 4 / 5.
        house.input(2, 128);
        box(house, 0, 1, 0, 39321, 39322);
        box(house, 0, 1, 1, 52428, 52429);
        // D(384): the same turned by a quarter.
        house.input(2, 384);
        box(house, 0, 1, 0, -52429, -52428);
        box(house, 0, 1, 1, 39321, 39322);
    }

    private static void cranks() {
        MechanismHouse house = Check.linked("fix A 1 2;crank B A 5 0 1 0;crank C A 5 0 -1 0;crank D A 5 0 0 256;"
                + "crank E A 1 0 2 0;crank F B 1/3 1 1 512;crank G A 1 0 1 128;");
        box(house, 0, 1, 0, 6 * ONE, 6 * ONE);
        box(house, 0, 3, 0, ONE, ONE);
        box(house, 0, 3, 1, 7 * ONE, 7 * ONE);
        house.input(0, 128);
        box(house, 0, 1, 0, ONE + 5 * 39321, ONE + 5 * 39322);
        box(house, 0, 1, 1, 2 * ONE + 5 * 52428, 2 * ONE + 5 * 52429);
        box(house, 0, 2, 1, 2 * ONE - 5 * 52429, 2 * ONE - 5 * 52428);
        box(house, 0, 3, 1, 7 * ONE, 7 * ONE);
        // x x - y y of 39321 .. 39322 and 52428 .. 52429, each product rounded outward.
        box(house, 0, 4, 0, ONE + 23592 - 41944, ONE + 23594 - 41941);
        box(house, 0, 4, 1, 2 * ONE + 2 * 31456, 2 * ONE + 2 * 31458);
        box(house, 0, 5, 0, ONE + 5 * 39321 - 21846, ONE + 5 * 39322 - 21845);
        box(house, 0, 6, 0, ONE + 23592 - 41944, ONE + 23594 - 41941);
    }

    private static void dyads() {
        MechanismHouse house = Check.linked("fix A 0 0;fix B 6 0;dyad C A B 5 5 +;dyad D A B 5 5 -;dyad E A B 5 5 ?;");
        // x = 1 / 2; h = 16, h / n = 16 / 36, its root 43690 .. 43692, times 6.
        box(house, 0, 2, 0, 3 * ONE, 3 * ONE);
        box(house, 0, 2, 1, 6 * 43690, 6 * 43692);
        box(house, 0, 3, 1, -6 * 43692, -6 * 43690);
        box(house, 0, 4, 1, 6 * 43690, 6 * 43692);
        box(house, 1, 4, 1, -6 * 43692, -6 * 43690);
        // h is 0 at its lesser number: a stretched dyad is SURE still; one too long for it IS NOT.
        house = Check.linked("fix A 0 0;fix B 8 0;dyad C A B 4 4 +;");
        check.due("ways of a stretched one", house.ways(), 1);
        check.due("a stretched one is SURE", house.way(0, 1), 1);
        box(house, 0, 2, 0, 4 * ONE, 4 * ONE);
        box(house, 0, 2, 1, 0, 0);
        house = Check.linked("fix A 0 0;fix B 3 0;dyad C A B 1 2 +;");
        check.due("ways of a doubtful one", house.ways(), 1);
        check.due("a doubtful one", house.way(0, 1), 0);
        box(house, 0, 2, 0, 65535, 65538);
        box(house, 0, 2, 1, 0, 768);
        // A root above 2^23: 160 times 3 / 8.
        house = Check.linked("fix A 0 0;fix B 3/8 0;dyad C A B 60 60 +;");
        box(house, 0, 2, 0, 12288, 12288);
        box(house, 0, 2, 1, 3932140, 3932141);
        final MechanismHouse far = Check.linked("fix A 0 0;fix B 9 0;dyad C A B 4 4 ?;");
        check.due("ways of none", far.ways(), 0);
        check.refuses("at of none", Check.MISSING, () -> far.at(0, 0, 0, 0));
        check.refuses("way of none", Check.MISSING, () -> far.way(0, 0));
    }

    private static void slides() {
        MechanismHouse house = Check.linked("fix A 0 3;fix D -2 0;fix E 2 0;slide C A 5 D E ?;");
        // v = -2, -3; b = -8; t = 1 / 2; h = 25 - (4 + 9 - 4) = 16; root(16 / 16) = 1.
        check.due("ways", house.ways(), 2);
        box(house, 0, 3, 0, 4 * ONE, 4 * ONE);
        box(house, 0, 3, 1, 0, 0);
        box(house, 1, 3, 0, -4 * ONE, -4 * ONE);
        house = Check.linked("fix A 0 3;fix D -2 0;fix E 2 0;slide C A 5 D E +;slide F A 5 D E -;slide G A 5 E D -;");
        box(house, 0, 3, 0, 4 * ONE, 4 * ONE);
        box(house, 0, 4, 0, -4 * ONE, -4 * ONE);
        box(house, 0, 5, 0, 4 * ONE, 4 * ONE);
        house = Check.linked("fix A 0 3;fix D -1 0;fix E 2 0;slide C A 3 D E ?;");
        check.due("a doubtful slide", house.way(1, 1), 0);
        box(house, 0, 3, 0, -1, 770);
        box(house, 1, 3, 0, -769, 2);
        // h is -3 .. 0: doubtful, not NONE.
        house = Check.linked("fix A 0 1/3;fix D 0 0;fix E 1 0;slide C A 3330/9991 D E +;");
        check.due("h ends with 0", house.ways(), 1);
        box(house, 0, 3, 0, 0, 0);
        house = Check.linked("fix A 0 3;fix D -2 0;fix E 2 0;slide C A 2 D E ?;");
        check.due("ways of none", house.ways(), 0);
    }

    private static void bodies() {
        MechanismHouse house = Check.linked("fix A 1 1;fix B 3 4;body C A B 1/2 0;body D A B 0 1;body E A B -2 3;");
        box(house, 0, 2, 0, 2 * ONE, 2 * ONE);
        box(house, 0, 2, 1, 5 * ONE / 2, 5 * ONE / 2);
        box(house, 0, 3, 0, -2 * ONE, -2 * ONE);
        box(house, 0, 3, 1, 3 * ONE, 3 * ONE);
        box(house, 0, 4, 0, -12 * ONE, -12 * ONE);
        box(house, 0, 4, 1, ONE, ONE);
    }

    private static void crossings() {
        MechanismHouse house = Check.linked("fix A 0 0;fix B 4 4;fix D 0 4;fix E 4 0;cross C A B D E;cross F B A D E;"
                + "cross G A B E E;fix H 1 0;fix I 1 9;cross J A B H I;");
        box(house, 0, 4, 0, 2 * ONE, 2 * ONE);
        box(house, 0, 4, 1, 2 * ONE, 2 * ONE);
        box(house, 0, 5, 0, 2 * ONE, 2 * ONE);
        box(house, 0, 9, 1, ONE, ONE);
        final MechanismHouse same = house;
        check.refuses("a cross with no line", Check.MISSING, () -> same.at(0, 6, 0, 0));
        check.due("ways", house.ways(), 1);
        check.due("it is in doubt", house.way(0, 1), 0);
    }

    private static void ways() {
        MechanismHouse house = Check.linked("fix A 0 0;fix B 6 0;dyad C A B 5 5 ?;fix D 3 4;fix G 3 10;"
                + "dyad E C G 2 5 ?;");
        // C stands at 3, 4 (6 below G) or at 3, -4 (14 below it: E is NONE).
        check.due("ways", house.ways(), 2);
        check.due("way(0, 0)", house.way(0, 0), 0);
        check.due("way(1, 0)", house.way(1, 0), 2);
        check.due("way(0, 1)", house.way(0, 1), 1);
        check.due("way(1, 1)", house.way(1, 1), 1);
        check.refuses("way(2, 0)", Check.MISSING, () -> house.way(2, 0));
        check.refuses("way(-1, 0)", Check.MISSING, () -> house.way(-1, 0));
        check.refuses("way(0, 2)", Check.BAD, () -> house.way(0, 2));
        check.refuses("way(5, -1)", Check.BAD, () -> house.way(5, -1));
        check.refuses("at of way 1", Check.MISSING, () -> house.at(1, 0, 0, 0));
        check.due("bits of no ?", house.at(4 + 8 + 128, 2, 1, 0), 6 * 43690);
        check.due("bits of no ?", house.at(254, 5, 0, 0), house.at(2, 5, 0, 0));
        MechanismHouse many = Check.linked("fix A 0 0;fix B 1 0;dyad C A B 1 1 ?;dyad D A B 1 1 ?;dyad E A B 1 1 ?;"
                + "dyad F A B 1 1 ?;dyad G A B 1 1 ?;dyad H A B 1 1 ?;dyad I A B 1 1 ?;dyad J A B 1 1 ?;");
        check.due("all ways", many.ways(), 256);
        check.due("way(200, 0)", many.way(200, 0), 200);
        check.due("the 8th ? of way 128 turned", many.at(128, 9, 1, 1), -many.at(127, 9, 1, 0));
        check.due("the 7th of way 64", many.at(64, 8, 1, 1), -many.at(0, 8, 1, 0));
        MechanismHouse turned = Check.linked("fix A 0 0;fix B 4 0;crank C A 2 0 1 0;dyad D C B 3 3 ?;");
        check.due("ways at 0", turned.ways(), 2);
        check.due("a way at 0", turned.way(1, 0), 1);
        turned.input(0, 512);
        check.due("ways at 512", turned.ways(), 2);
        check.due("stretched at 512", turned.way(0, 1), 1);
        turned = Check.linked("fix A 0 0;fix B 4 0;crank C A 5/2 0 1 0;dyad D C B 3 3 ?;");
        check.due("ways at 0", turned.ways(), 2);
        turned.input(0, 512);
        check.due("ways at 512, too far", turned.ways(), 0);
    }

    private static void open() {
        // Each body is 60 times as far: the third is above 2^31.
        MechanismHouse house = Check.linked("fix A 0 0;fix B 60 0;body C A B 60 0;body D A C 60 0;crank E D 1 0 1 0;"
                + "fix F 2 0;dyad G D F 1 1 +;dyad H A F 2 2 ?;");
        box(house, 0, 2, 0, 3600 * ONE, 3600 * ONE);
        check.refuses("at of an OPEN one", Check.MISSING, () -> house.at(0, 3, 0, 0));
        check.refuses("its other axis too", Check.MISSING, () -> house.at(0, 3, 1, 0));
        check.refuses("what hangs on it", Check.MISSING, () -> house.at(0, 4, 1, 1));
        check.refuses("NONE isn't asked there", Check.MISSING, () -> house.at(0, 6, 0, 0));
        check.due("ways", house.ways(), 2);
        check.due("in doubt", house.way(1, 1), 0);
        // A product is OPEN though the sum that it stands in would not be.
        MechanismHouse sum = Check.linked("fix O 0 0;fix U -60 0;fix V 60 0;body A O U 60 0;body B O V 9 0;"
                + "body C A B 8 0;body D A B 7 0;");
        check.refuses("8 times 4140", Check.MISSING, () -> sum.at(0, 5, 0, 0));
        box(sum, 0, 6, 0, (7 * 4140 - 3600) * ONE, (7 * 4140 - 3600) * ONE);
        // What is divided is OPEN, what it is divided by isn't.
        MechanismHouse lines = Check.linked("fix A 0 0;fix B 60 0;body D A B 60 0;crank E D 60 0 1 256;"
                + "cross C A B D E;");
        check.due("E isn't OPEN", lines.at(0, 3, 1, 0), 60 * ONE);
        check.refuses("C is OPEN", Check.MISSING, () -> lines.at(0, 4, 1, 0));
        // 2^31 itself is not above 2^31.
        MechanismHouse edge = Check.linked("fix A 0 0;fix B 32 0;body C A B 32 0;body D A C 32 0;body E A C -32 0;"
                + "crank F D 1/9999 0 1 0;");
        box(edge, 0, 3, 0, 1L << 31, 1L << 31);
        box(edge, 0, 4, 0, -(1L << 31), -(1L << 31));
        check.refuses("a little more is OPEN", Check.MISSING, () -> edge.at(0, 5, 0, 0));
        edge.input(0, 512);
        box(edge, 0, 5, 0, (1L << 31) - 7, (1L << 31) - 6);
        check.due("all SURE now", edge.way(0, 1), 1);
    }

    private static void wrong() {
        MechanismHouse house = Check.linked("fix A 0 0;");
        check.refuses("at(-1, ..)", Check.BAD, () -> house.at(-1, 0, 0, 0));
        check.refuses("at(256, ..)", Check.BAD, () -> house.at(256, 0, 0, 0));
        check.refuses("at(.., axis 2, ..)", Check.BAD, () -> house.at(0, 0, 2, 0));
        check.refuses("at(.., axis -1, ..)", Check.BAD, () -> house.at(0, 0, -1, 0));
        check.refuses("at(.., side 2)", Check.BAD, () -> house.at(0, 0, 0, 2));
        check.refuses("at(.., side -1)", Check.BAD, () -> house.at(0, 9, 0, -1));
        check.refuses("at(0, 1, ..)", Check.MISSING, () -> house.at(0, 1, 0, 0));
        check.refuses("at(0, -1, ..)", Check.MISSING, () -> house.at(0, -1, 0, 0));
        check.due("at(255, ..)", house.at(255, 0, 1, 1), 0);
    }
}
