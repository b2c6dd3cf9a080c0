/** Promises 21 to 27: gear, mesh, shaft, clear, solved, turns, interference. */
public final class GearTest {
    private static final Check check = new Check();

    public static void main(String[] args) {
        gears();
        meshes();
        shafts();
        pairs();
        planets();
        outcomes();
        tooLarge();
        clearing();
        interferences();
        check.close();
    }

    private static void gears() {
        MechanismHouse house = new MechanismHouse();
        check.refuses("3 teeth", Check.BAD, () -> house.gear(3, 0));
        check.refuses("2001 teeth", Check.BAD, () -> house.gear(2001, 0));
        check.refuses("SHAFT -1", Check.BAD, () -> house.gear(4, -1));
        check.refuses("SHAFT 12", Check.BAD, () -> house.gear(4, 12));
        for (int k = 0; k < 24; k++) {
            check.due("gear " + k, house.gear(k == 0 ? 4 : 2000, k % 12), k);
        }
        check.refuses("the 25th", Check.FULL, () -> house.gear(4, 0));
        check.refuses("bad ahead of FULL", Check.BAD, () -> house.gear(4, 12));
        check.due("count(6)", house.count(6), 24);
    }

    private static void meshes() {
        MechanismHouse house = new MechanismHouse();
        house.gear(10, 0);
        house.gear(20, 1);
        house.gear(30, 0);
        check.refuses("arm 12", Check.BAD, () -> house.mesh(0, 1, false, 12));
        check.refuses("arm -2", Check.BAD, () -> house.mesh(0, 9, false, -2));
        check.refuses("no GEAR 3", Check.MISSING, () -> house.mesh(0, 3, false, -1));
        check.refuses("no GEAR -1", Check.MISSING, () -> house.mesh(-1, 0, false, -1));
        check.refuses("one SHAFT", Check.REFUSED, () -> house.mesh(0, 2, false, -1));
        check.refuses("one GEAR", Check.REFUSED, () -> house.mesh(1, 1, true, 11));
        for (int k = 0; k < 20; k++) {
            check.due("mesh " + k, house.mesh(0, 1, false, -1), k);
        }
        check.refuses("the 21st", Check.FULL, () -> house.mesh(0, 1, false, -1));
        check.refuses("REFUSED ahead of FULL", Check.REFUSED, () -> house.mesh(0, 2, false, -1));
        check.due("count(7)", house.count(7), 20);
        check.due("all alike", house.solved(), 1);
    }

    private static void shafts() {
        MechanismHouse house = new MechanismHouse();
        check.refuses("shaft -1", Check.BAD, () -> house.shaft(-1, 0, 0, 1));
        check.refuses("shaft 12", Check.BAD, () -> house.shaft(12, 0, 0, 1));
        check.refuses("how 3", Check.BAD, () -> house.shaft(0, 3, 0, 1));
        check.refuses("how -1", Check.BAD, () -> house.shaft(0, -1, 0, 1));
        check.refuses("p 1001", Check.BAD, () -> house.shaft(0, 2, 1001, 1));
        check.refuses("p -1001", Check.BAD, () -> house.shaft(0, 2, -1001, 1));
        check.refuses("q 0", Check.BAD, () -> house.shaft(0, 2, 1, 0));
        check.refuses("q 1001", Check.BAD, () -> house.shaft(0, 2, 1, 1001));
        check.refuses("still free", Check.MISSING, () -> house.turns(0, 0));
        house.shaft(0, 2, -1000, 250);
        turns(house, 0, -4, 1);
        house.shaft(0, 2, 6, 1000);
        turns(house, 0, 3, 500);
        house.shaft(0, 1, 5000, -5000);
        turns(house, 0, 0, 1);
        house.shaft(0, 0, 5000, -5000);
        check.refuses("free again", Check.MISSING, () -> house.turns(0, 0));
        check.refuses("turns s", Check.BAD, () -> house.turns(12, 0));
        check.refuses("turns s", Check.BAD, () -> house.turns(-1, 0));
        check.refuses("turns what", Check.BAD, () -> house.turns(0, 2));
        check.refuses("turns what", Check.BAD, () -> house.turns(0, -1));
    }

    private static void turns(MechanismHouse house, int s, long p, long q) {
        check.due("solved()", house.solved(), 1);
        check.due("turns(" + s + ", 0)", house.turns(s, 0), p);
        check.due("turns(" + s + ", 1)", house.turns(s, 1), q);
    }

    private static void pairs() {
        MechanismHouse house = new MechanismHouse();
        house.gear(20, 3);
        house.gear(50, 1);
        house.gear(15, 1);
        house.gear(60, 0);
        house.mesh(0, 1, false, -1);
        check.refuses("nothing is known", Check.MISSING, () -> house.turns(3, 0));
        house.shaft(3, 2, 10, 4);
        turns(house, 3, 5, 2);
        turns(house, 1, -1, 1);
        check.refuses("not in the train", Check.MISSING, () -> house.turns(0, 0));
        house.mesh(2, 3, true, -1);
        turns(house, 0, -1, 4);
        house.shaft(3, 1, 0, 0);
        turns(house, 0, 0, 1);
    }

    private static void planets() {
        MechanismHouse house = new MechanismHouse();
        house.gear(20, 0);
        house.gear(15, 1);
        house.gear(50, 2);
        house.mesh(0, 1, false, 3);
        house.mesh(1, 2, true, 3);
        house.shaft(2, 1, 0, 0);
        house.shaft(0, 2, 1, 1);
        turns(house, 3, 2, 7);
        turns(house, 1, -2, 3);
        turns(house, 2, 0, 1);
        house.shaft(2, 0, 0, 0);
        check.refuses("two freedoms", Check.MISSING, () -> house.turns(3, 0));
        turns(house, 0, 1, 1);
        // An arm on a SHAFT of the pair: za (wa - wa) + zb (wb - wa) = 0.
        MechanismHouse locked = new MechanismHouse();
        locked.gear(20, 0);
        locked.gear(15, 1);
        locked.mesh(0, 1, false, 0);
        locked.shaft(0, 2, 3, 7);
        turns(locked, 1, 3, 7);
    }

    private static void outcomes() {
        MechanismHouse house = new MechanismHouse();
        house.gear(20, 0);
        house.gear(40, 1);
        house.mesh(0, 1, false, -1);
        house.shaft(0, 2, 1, 1);
        house.shaft(1, 2, -1, 2);
        check.due("it fits twice", house.solved(), 1);
        house.shaft(1, 2, 1, 2);
        check.due("nothing fits", house.solved(), 2);
        check.refuses("turns then", Check.REFUSED, () -> house.turns(0, 0));
        check.refuses("REFUSED ahead of not known", Check.REFUSED, () -> house.turns(9, 1));
        check.refuses("bad ahead of REFUSED", Check.BAD, () -> house.turns(0, 5));
        house.shaft(1, 0, 0, 0);
        check.due("it fits", house.solved(), 1);
        house.mesh(0, 1, true, -1);
        check.due("two meshes, two ways", house.solved(), 2);
        house.shaft(0, 1, 0, 0);
        check.due("all at rest", house.solved(), 1);
        turns(house, 1, 0, 1);
    }

    private static void tooLarge() {
        MechanismHouse house = new MechanismHouse();
        for (int k = 0; k < 5; k++) {
            house.gear(1997, k);
            house.gear(1999, k + 1);
        }
        for (int k = 0; k < 4; k++) {
            house.mesh(2 * k, 2 * k + 1, false, -1);
        }
        house.shaft(0, 2, 1, 1);
        check.due("1999^4 fits", house.solved(), 1);
        check.due("its p", house.turns(4, 0), 1997L * 1997 * 1997 * 1997);
        check.due("its q", house.turns(4, 1), 1999L * 1999 * 1999 * 1999);
        house.mesh(8, 9, false, -1);
        check.due("1999^5 is TOO LARGE", house.solved(), 3);
        check.refuses("turns then", Check.REFUSED, () -> house.turns(0, 0));
        house.shaft(11, 2, 1, 1);
        check.due("TOO LARGE still", house.solved(), 3);
    }

    private static void clearing() {
        MechanismHouse house = new MechanismHouse();
        house.gear(20, 0);
        house.gear(40, 1);
        house.mesh(0, 1, false, -1);
        house.shaft(0, 2, 1, 1);
        house.shaft(1, 1, 0, 0);
        check.due("nothing fits", house.solved(), 2);
        house.clear();
        check.due("count(6)", house.count(6), 0);
        check.due("count(7)", house.count(7), 0);
        check.due("solved()", house.solved(), 1);
        check.refuses("SHAFTS are free", Check.MISSING, () -> house.turns(1, 0));
        check.refuses("no GEARS", Check.MISSING, () -> house.interference(0, 0, false));
        check.due("the first again", house.gear(9, 9), 0);
    }

    private static void interferences() {
        MechanismHouse house = new MechanismHouse();
        int[] teeth = {17, 1310, 1311, 18, 25, 26, 4, 12, 2000};
        for (int k = 0; k < teeth.length; k++) {
            house.gear(teeth[k], 0);
        }
        check.due("17, 1310", house.interference(0, 1, false), 1);
        check.due("1310, 17", house.interference(1, 0, false), 1);
        check.due("17, 1311", house.interference(0, 2, false), 2);
        check.due("17, 17", house.interference(0, 0, false), 1);
        check.due("18, 2000", house.interference(3, 8, false), 0);
        check.due("18, 18", house.interference(3, 3, false), 0);
        check.due("4, 4", house.interference(6, 6, false), 2);
        check.due("12, 12", house.interference(7, 7, false), 2);
        check.due("17, 2000 inner", house.interference(0, 8, true), 1);
        check.due("17, 18 inner", house.interference(0, 3, true), 1);
        check.due("18, 25 inner", house.interference(3, 4, true), 2);
        check.due("18, 26 inner", house.interference(3, 5, true), 0);
        check.due("26, 18 inner", house.interference(5, 3, true), 0);
        check.due("18, 18 inner", house.interference(3, 3, true), 2);
        check.refuses("no GEAR 9", Check.MISSING, () -> house.interference(0, 9, false));
        check.refuses("no GEAR -1", Check.MISSING, () -> house.interference(-1, 0, true));
    }
}
