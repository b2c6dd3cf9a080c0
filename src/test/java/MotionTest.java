/** Promises 11 to 14: step, range, spread, least. */
public final class MotionTest {
    private static final Check check = new Check();
    private static final String ROCKER = "fix A 0 0;fix B 4 0;crank C A 3 0 1 0;dyad D C B 2 2 ?;";
    private static final String TURNER = "fix A 0 0;fix B 4 0;crank C A 1 0 1 0;dyad D C B 3 3 ?;";

    public static void main(String[] args) {
        steps();
        ranges();
        spreads();
        leasts();
        wrong();
        check.close();
    }

    private static void steps() {
        MechanismHouse house = Check.linked(ROCKER);
        check.due("step to the end", house.step(0, 0, 1023), 172);
        check.due("count(2)", house.count(2), 172);
        check.due("step on there", house.step(0, 0, 1), 172);
        check.due("step by 0", house.step(0, 0, 0), 172);
        check.due("step back", house.step(0, 0, -5), 167);
        check.due("step of the other way", house.step(1, 0, -1023), 818);
        check.due("another INPUT is free", house.step(0, 3, -1), 1023);
        check.due("round the circle", house.step(0, 3, 5), 4);
        check.due("bits of no ?", house.step(254, 0, 2), 820);
        house.input(0, 500);
        check.refuses("step where the way isn't", Check.REFUSED, () -> house.step(0, 0, 1));
        check.refuses("bad ahead of REFUSED", Check.BAD, () -> house.step(0, 0, 1024));
        check.due("count(2) stays", house.count(2), 500);
        MechanismHouse turner = Check.linked(TURNER);
        check.due("on", turner.step(0, 0, 1023), 1023);
        check.due("over 0", turner.step(0, 0, 3), 2);
        check.due("back over 0", turner.step(0, 0, -3), 1023);
        check.due("a new house moves too", new MechanismHouse().step(7, 1, -1), 1023);
    }

    private static void range(MechanismHouse house, int w, int i, int places, int runs, int least) {
        check.due("range(" + w + ", " + i + ", 0)", house.range(w, i, 0), places);
        check.due("range(" + w + ", " + i + ", 1)", house.range(w, i, 1), runs);
        check.due("range(" + w + ", " + i + ", 2)", house.range(w, i, 2), least);
    }

    private static void ranges() {
        MechanismHouse house = Check.linked(ROCKER);
        house.input(0, 33);
        range(house, 0, 0, 379, 1, 818);
        range(house, 1, 0, 379, 1, 818);
        range(house, 0, 1, 1024, 1, 0);
        check.due("count(2) stays", house.count(2), 33);
        house.input(0, 500);
        range(house, 0, 1, 0, 0, -1);
        range(house, 0, 0, 379, 1, 818);
        house = Check.linked("fix A 0 0;fix B 4 0;crank C A 3 0 2 0;dyad D C B 2 2 +;");
        range(house, 0, 0, 396, 2, 393);
        house = Check.linked("fix A 0 0;fix B 4 0;crank C A 3 0 1 300;dyad D C B 2 2 +;");
        range(house, 0, 0, 366, 1, 518);
        house = Check.linked("fix A 0 0;fix B 4 0;crank C A 3 0 1 818;dyad D C B 2 2 +;");
        range(house, 0, 0, 365, 1, 0);
        check.due("C is lowest at place 0", house.spread(0, 0, 2, 1, 0), house.at(0, 2, 1, 0));
        range(house, 0, 3, 1024, 1, 0);
        house = Check.linked("fix A 0 0;fix B 4 0;crank C A 3 0 2 818;dyad D C B 2 2 +;");
        range(house, 0, 0, 346, 2, 0);
        house = Check.linked("fix A 0 0;fix B 4 0;crank C A 3 0 1 172;dyad D C B 2 2 +;");
        range(house, 0, 0, 408, 1, 617);
        house = Check.linked("fix A 0 0;fix B 40 0;crank C A 3 0 1 0;dyad D C B 2 2 +;");
        range(house, 0, 0, 0, 0, -1);
        range(Check.linked(TURNER), 1, 0, 1024, 1, 0);
        range(new MechanismHouse(), 255, 3, 1024, 1, 0);
        sameAsOneByOne();
    }

    private static void sameAsOneByOne() {
        MechanismHouse house = null;
        int sure = 0;
        long least = Long.MAX_VALUE;
        long greatest = Long.MIN_VALUE;
        for (int k = 0; k < 1024; k++) {
            // An object answers 512 calls, no more.
            if (k % 64 == 0) {
                house = Check.linked(ROCKER);
            }
            house.input(0, k);
            if (house.ways() > 0 && house.way(0, 1) == 1) {
                sure++;
                least = Math.min(least, house.at(0, 3, 1, 0));
                greatest = Math.max(greatest, house.at(0, 3, 1, 1));
            }
        }
        check.due("SURE ones, one by one", sure, house.range(0, 0, 0));
        check.due("the least y, one by one", least, house.spread(0, 0, 3, 1, 0));
        check.due("the greatest y, one by one", greatest, house.spread(0, 0, 3, 1, 1));
    }

    private static void spreads() {
        MechanismHouse house = Check.linked(ROCKER);
        house.input(0, 500);
        check.due("spread x 0", house.spread(0, 0, 3, 0, 0), 131060);
        check.due("spread x 1", house.spread(0, 0, 3, 0, 1), 303113);
        check.due("spread y 0", house.spread(0, 0, 3, 1, 0), -87063);
        check.due("spread y 1", house.spread(0, 0, 3, 1, 1), 131086);
        check.due("the other way", house.spread(1, 0, 3, 1, 0), -131086);
        check.due("a fixed one", house.spread(0, 0, 1, 0, 1), 4 * 65536);
        check.due("count(2) stays", house.count(2), 500);
        check.refuses("no place", Check.MISSING, () -> house.spread(0, 1, 0, 0, 0));
        MechanismHouse turner = Check.linked(TURNER);
        check.due("the whole circle", turner.spread(0, 0, 2, 0, 0), -65536);
        check.due("the whole circle", turner.spread(0, 0, 2, 1, 1), 65536);
        check.due("place 0 too", turner.spread(0, 0, 2, 0, 1), 65536);
        check.due("place 768 too", turner.spread(0, 0, 2, 1, 0), -65536);
        check.due("INPUT 3", turner.spread(0, 3, 2, 0, 0), 65536);
    }

    private static void leasts() {
        MechanismHouse house = Check.linked(ROCKER);
        house.input(0, 501);
        check.due("least 0", house.least(0, 0, 3, 0, 0), 262099);
        check.due("least 1", house.least(0, 0, 3, 0, 1), 262204);
        check.due("least of C, B", house.least(0, 0, 2, 1, 0), 65536);
        check.due("least of B, C", house.least(0, 0, 1, 2, 1), 65536);
        check.due("least of one", house.least(0, 0, 1, 1, 1), 0);
        check.due("count(2) stays", house.count(2), 501);
        check.refuses("no place", Check.MISSING, () -> house.least(0, 2, 0, 1, 0));
        check.due("INPUT 3", Check.linked(TURNER).least(0, 3, 1, 2, 0), 9 * 65536);
        check.due("at place 0 alone", Check.linked(TURNER).least(0, 0, 1, 2, 1), 9 * 65536);
        // A square of a box round 0 begins with 0.
        MechanismHouse wide = Check.linked("fix A 0 0;crank B A 60 0 1 0;body C A B 60 0;");
        wide.input(0, 100);
        check.due("C's lesser x", wide.at(0, 2, 0, 0), 173458800);
        check.due("C's greater x", wide.at(0, 2, 0, 1), 173462400);
        check.due("a wide one and itself", wide.least(0, 1, 2, 2, 0), 0);
        check.due("a wide one and itself", wide.least(0, 1, 2, 2, 1), 396);
        // 200 squared is above 2^15: OPEN, and left out.
        MechanismHouse far = Check.linked("fix A 0 0;fix B 50 0;body C A B 4 0;crank D A 30 0 1 0;");
        check.refuses("only OPEN ones", Check.MISSING, () -> far.least(0, 0, 0, 2, 0));
        check.due("170 squared at the nearest", far.least(0, 0, 3, 2, 0), 170 * 170 * 65536L);
        check.due("it isn't OPEN there", far.least(0, 0, 3, 2, 1), 170 * 170 * 65536L);
    }

    private static void wrong() {
        MechanismHouse house = Check.linked(ROCKER);
        check.due("step of 255", house.step(255, 0, 0), 0);
        check.due("range of 255", house.range(255, 0, 2), 818);
        check.due("spread of 255", house.spread(255, 0, 3, 1, 0), -131086);
        check.due("least of 255", house.least(255, 0, 2, 1, 0), 65536);
        check.refuses("step w", Check.BAD, () -> house.step(256, 0, 1));
        check.refuses("step w", Check.BAD, () -> house.step(-1, 0, 1));
        check.refuses("step i", Check.BAD, () -> house.step(0, 4, 1));
        check.refuses("step n", Check.BAD, () -> house.step(0, 0, -1024));
        check.refuses("range w", Check.BAD, () -> house.range(256, 0, 0));
        check.refuses("range i", Check.BAD, () -> house.range(0, -1, 0));
        check.refuses("range what", Check.BAD, () -> house.range(0, 0, 3));
        check.refuses("range what", Check.BAD, () -> house.range(0, 0, -1));
        check.refuses("spread w", Check.BAD, () -> house.spread(-1, 0, 0, 0, 0));
        check.refuses("spread w", Check.BAD, () -> house.spread(256, 0, 0, 0, 0));
        check.refuses("spread i", Check.BAD, () -> house.spread(0, 4, 9, 0, 0));
        check.refuses("spread axis", Check.BAD, () -> house.spread(0, 0, 0, 2, 0));
        check.refuses("spread side", Check.BAD, () -> house.spread(0, 0, 0, 0, -1));
        check.refuses("spread p", Check.MISSING, () -> house.spread(0, 0, 4, 0, 0));
        check.refuses("spread p", Check.MISSING, () -> house.spread(0, 0, -1, 0, 0));
        check.refuses("least w", Check.BAD, () -> house.least(256, 0, 0, 0, 0));
        check.refuses("least w", Check.BAD, () -> house.least(-1, 0, 0, 0, 0));
        check.refuses("least i", Check.BAD, () -> house.least(0, -1, 0, 0, 0));
        check.refuses("least side", Check.BAD, () -> house.least(0, 0, 0, 9, 2));
        check.refuses("least p", Check.MISSING, () -> house.least(0, 0, 4, 0, 0));
        check.refuses("least q", Check.MISSING, () -> house.least(0, 0, 0, -1, 0));
    }
}
