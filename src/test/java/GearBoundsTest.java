/**
 * The boundary sentences on FRACTIONS, TRAINS and of promises 21 to 29: gear, mesh, shaft, clear, solved, turns,
 * interference, trains, train. Above each test stands the sentence that it holds.
 */
public final class GearBoundsTest {
    private static final Check check = new Check();
    private static final long LIMIT = 1000000000000000L;

    public static void main(String[] args) {
        gearRange();
        gearsAreFull();
        meshRange();
        meshMissing();
        meshOnOneShaft();
        meshesAreFull();
        shaftRange();
        shaftNotLookedAt();
        shaftHow();
        lowestTerms();
        clearAll();
        solvedOfNothing();
        solvedNothingFits();
        solvedTooLarge();
        tooLargeUnder();
        tooLargeAheadOfNothingFits();
        turnsRange();
        turnsNotKnown();
        turnsRefused();
        frameAndArms();
        interferenceOuter();
        interferenceInner();
        interferenceMissing();
        trainsRange();
        trainsOfOne();
        threeHundred();
        trainRange();
        check.close();
    }

    private static void turns(MechanismHouse house, int s, long p, long q) {
        check.due("solved()", house.solved(), 1);
        check.due("turns(" + s + ", 0)", house.turns(s, 0), p);
        check.due("turns(" + s + ", 1)", house.turns(s, 1), q);
    }

    /** GEARS 10, 20 on SHAFTS 0, 1, and a MESH of them. */
    private static MechanismHouse pair() {
        MechanismHouse house = new MechanismHouse();
        house.gear(10, 0);
        house.gear(20, 1);
        house.mesh(0, 1, false, -1);
        return house;
    }

    /** "SHAFTS 0 .. 11, GEARS (.. teeth 4 .. 2,000, on a SHAFT)" and "Bad teeth, SHAFT". */
    private static void gearRange() {
        MechanismHouse house = new MechanismHouse();
        check.range("gear teeth", 4, 2000, teeth -> house.gear(teeth, 0));
        check.range("gear shaft", 0, 11, shaft -> house.gear(4, shaft));
        check.due("those that were good", house.count(6), 4);
        check.refuses("both", Check.BAD, () -> house.gear(3, 12));
    }

    /** "GEARS (at most 24 ..)" and "A GEAR: its number. .. FULL." */
    private static void gearsAreFull() {
        MechanismHouse house = new MechanismHouse();
        for (int k = 0; k < 24; k++) {
            check.due("its number", house.gear(4 + k, k % 12), k);
        }
        check.refuses("the 25th", Check.FULL, () -> house.gear(4, 0));
        check.refuses("bad ahead of FULL", Check.BAD, () -> house.gear(2001, 0));
        check.due("24 stay", house.count(6), 24);
        check.due("the last is there", house.mesh(0, 23, false, -1), 0);
        check.refuses("no 25th", Check.MISSING, () -> house.interference(0, 24, false));
        house.clear();
        check.due("there is room again", house.gear(4, 0), 0);
    }

    /** "with an arm (a SHAFT, or -1: the frame)" and "Bad arm". */
    private static void meshRange() {
        MechanismHouse house = pair();
        check.range("mesh arm", -1, 11, arm -> house.mesh(0, 1, true, arm));
        check.due("those that were good", house.count(7), 3);
    }

    /** "missing": each GEAR, in both places. */
    private static void meshMissing() {
        MechanismHouse house = pair();
        check.outside("mesh a", 0, 1, Check.MISSING, a -> house.mesh(a, 0, false, -1));
        check.outside("mesh b", 0, 1, Check.MISSING, b -> house.mesh(1, b, false, -1));
        check.outside("of none", 0, 0, Check.MISSING, a -> new MechanismHouse().mesh(a, a, false, -1));
        check.refuses("GEAR 0 of none", Check.MISSING, () -> new MechanismHouse().mesh(0, 0, false, 0));
        check.due("none came", house.count(7), 1);
    }

    /** "REFUSED: both on one SHAFT": two GEARS, and a GEAR and itself. */
    private static void meshOnOneShaft() {
        MechanismHouse house = pair();
        house.gear(30, 1);
        check.refuses("two on SHAFT 1", Check.REFUSED, () -> house.mesh(1, 2, true, -1));
        check.refuses("the other way round", Check.REFUSED, () -> house.mesh(2, 1, false, 5));
        check.refuses("one and itself", Check.REFUSED, () -> house.mesh(0, 0, false, -1));
        check.due("none came", house.count(7), 1);
        check.due("the arm may be on its SHAFT", house.mesh(0, 2, false, 1), 1);
    }

    /** "A MESH of two GEARS (at most 20)" and "its number. .. FULL." */
    private static void meshesAreFull() {
        MechanismHouse house = pair();
        for (int k = 1; k < 20; k++) {
            check.due("its number", house.mesh(1, 0, false, -1), k);
        }
        check.refuses("the 21st", Check.FULL, () -> house.mesh(0, 1, false, -1));
        check.due("20 stay", house.count(7), 20);
        for (int s = 0; s < 12; s++) {
            house.shaft(s, 1, 0, 0);
        }
        check.due("with all SHAFTS held", house.solved(), 1);
        turns(house, 11, 0, 1);
        house.clear();
        house.gear(10, 0);
        house.gear(20, 1);
        check.due("there is room again", house.mesh(0, 1, false, -1), 0);
    }

    /** "SHAFT s: how 0 free, 1 held, 2 told p / q (-1,000 .. 1,000; q 1 .. 1,000 ..). Bad." */
    private static void shaftRange() {
        MechanismHouse house = new MechanismHouse();
        check.range("shaft s", 0, 11, s -> house.shaft(s, 2, 1, 1));
        check.range("shaft how", 0, 2, how -> house.shaft(5, how, 1, 1));
        check.range("shaft p", -1000, 1000, p -> house.shaft(0, 2, p, 1));
        check.range("shaft q", 1, 1000, q -> house.shaft(1, 2, 1, q));
        turns(house, 0, 1000, 1);
        turns(house, 1, 1, 1000);
        turns(house, 11, 1, 1);
    }

    /** "(.. else not looked at)": p and q of a SHAFT that is free or held. */
    private static void shaftNotLookedAt() {
        MechanismHouse house = new MechanismHouse();
        int[] wild = {Integer.MIN_VALUE, -1001, 0, 1001, Integer.MAX_VALUE};
        for (int k = 0; k < wild.length; k++) {
            final int n = wild[k];
            check.good("held", () -> house.shaft(k(n), 1, n, n));
            turns(house, k(n), 0, 1);
            check.good("free", () -> house.shaft(k(n), 0, n, n));
            check.refuses("free", Check.MISSING, () -> house.turns(k(n), 0));
            check.refuses("the SHAFT is looked at", Check.BAD, () -> house.shaft(12, 1, n, n));
        }
    }

    private static int k(int n) {
        return n > 0 ? 11 : 0;
    }

    /** "Held SHAFTS: w = 0; told ones: w = a FRACTION": one after the other on one SHAFT; a bad one leaves it. */
    private static void shaftHow() {
        MechanismHouse house = new MechanismHouse();
        house.shaft(3, 2, -7, 3);
        turns(house, 3, -7, 3);
        check.refuses("a bad one", Check.BAD, () -> house.shaft(3, 2, 1, 0));
        check.refuses("a bad one", Check.BAD, () -> house.shaft(3, 3, 1, 1));
        turns(house, 3, -7, 3);
        house.shaft(3, 1, 5, 5);
        turns(house, 3, 0, 1);
        house.shaft(3, 0, 5, 5);
        check.refuses("free", Check.MISSING, () -> house.turns(3, 0));
    }

    /** "p / q, q above 0, in lowest terms (0: 0 / 1)". */
    private static void lowestTerms() {
        MechanismHouse house = new MechanismHouse();
        int[] told = {1000, 1000, -1000, 250, 6, 4, 0, 1000, -999, 1000, 0, 1};
        long[] want = {1, 1, -4, 1, 3, 2, 0, 1, -999, 1000, 0, 1};
        for (int k = 0; k < told.length; k += 2) {
            house.shaft(k, 2, told[k], told[k + 1]);
            turns(house, k, want[k], want[k + 1]);
        }
    }

    /** "No GEARS, MESHES; all SHAFTS free." FOUND trains aren't among them. */
    private static void clearAll() {
        MechanismHouse house = pair();
        for (int s = 0; s < 12; s++) {
            house.shaft(s, s == 1 ? 1 : 2, 1, 1);
        }
        house.trains(3, 2, 4, 6);
        check.due("nothing fits", house.solved(), 2);
        house.clear();
        check.due("GEARS", house.count(6), 0);
        check.due("MESHES", house.count(7), 0);
        check.due("solved()", house.solved(), 1);
        for (int s = 0; s < 12; s++) {
            final int shaft = s;
            check.refuses("SHAFT " + s, Check.MISSING, () -> house.turns(shaft, 0));
        }
        check.due("FOUND trains stay", house.count(11), 3);
        house.clear();
        check.due("of nothing", house.solved(), 1);
    }

    /** "Else 1": no rows at all; rows without a SHAFT that is told. */
    private static void solvedOfNothing() {
        check.due("a new object", new MechanismHouse().solved(), 1);
        MechanismHouse house = pair();
        check.due("one MESH", house.solved(), 1);
        check.refuses("SHAFT 0", Check.MISSING, () -> house.turns(0, 0));
        check.refuses("SHAFT 1", Check.MISSING, () -> house.turns(1, 0));
        // A row of 0 before a right side of 0 says nothing.
        MechanismHouse twice = pair();
        twice.mesh(0, 1, false, -1);
        twice.shaft(0, 2, 1, 1);
        twice.shaft(1, 2, -1, 2);
        turns(twice, 1, -1, 2);
    }

    /** "A row with all 0 before a right side that isn't 0: 2 (nothing fits)." */
    private static void solvedNothingFits() {
        MechanismHouse house = pair();
        house.shaft(0, 2, 2, 1);
        house.shaft(1, 2, -1, 1);
        check.due("it fits", house.solved(), 1);
        house.shaft(1, 2, -999, 1000);
        check.due("nearly", house.solved(), 2);
        house.shaft(1, 1, 0, 0);
        check.due("held against it", house.solved(), 2);
        house.shaft(0, 1, 0, 0);
        check.due("both held", house.solved(), 1);
    }

    /** A row of MESHES, each from a GEAR on SHAFT k to one on SHAFT k + 1. */
    private static MechanismHouse row(boolean faster, int... teeth) {
        MechanismHouse house = new MechanismHouse();
        for (int k = 0; k < teeth.length; k++) {
            house.gear(faster ? teeth[k] : 4, k);
            house.gear(faster ? 4 : teeth[k], k + 1);
            house.mesh(2 * k, 2 * k + 1, false, -1);
        }
        house.shaft(0, 2, 1, 1);
        return house;
    }

    /** "TOO LARGE if a product in it .. is above 10^15 in size" and "TOO LARGE: 3": 10^15 itself isn't. */
    private static void solvedTooLarge() {
        MechanismHouse house = row(true, 2000, 2000, 2000, 2000, 2000, 128);
        turns(house, 6, LIMIT, 1);
        house.shaft(0, 2, -1, 1);
        turns(house, 6, -LIMIT, 1);
        house.shaft(0, 2, 2, 1);
        check.due("twice of it", house.solved(), 3);
        house.shaft(0, 2, 1, 2);
        turns(house, 6, LIMIT / 2, 1);
        // 346 381 369 259 493 161 = 10^15 + 40,958.
        check.due("a little more", row(true, 1384, 1524, 1476, 1036, 1972, 644).solved(), 3);
        // What was TOO LARGE is forgotten with the rows.
        house.shaft(0, 2, 2, 1);
        check.due("TOO LARGE once more", house.solved(), 3);
        house.clear();
        house.gear(10, 0);
        house.gear(20, 1);
        house.mesh(0, 1, false, -1);
        check.due("a pair", house.solved(), 1);
        house.shaft(0, 1, 0, 0);
        turns(house, 1, 0, 1);
        MechanismHouse told = row(true, 2000, 2000, 2000, 2000, 64);
        told.shaft(0, 2, 1000, 1);
        turns(told, 5, -LIMIT, 1);
    }

    /** The same below the line. */
    private static void tooLargeUnder() {
        MechanismHouse house = row(false, 2000, 2000, 2000, 2000, 2000, 128);
        turns(house, 6, 1, LIMIT);
        house.shaft(0, 2, -1, 1);
        turns(house, 6, -1, LIMIT);
        house.shaft(0, 2, 1, 2);
        check.due("half of it", house.solved(), 3);
        check.due("a little less", row(false, 1384, 1524, 1476, 1036, 1972, 644).solved(), 3);
    }

    /** "TOO LARGE: 3" stands ahead of "2", which is asked of what the rows have come to. */
    private static void tooLargeAheadOfNothingFits() {
        MechanismHouse house = row(true, 1384, 1524, 1476, 1036, 1972, 644);
        house.gear(4, 10);
        house.gear(4, 11);
        house.mesh(12, 13, false, -1);
        house.shaft(10, 2, 1, 1);
        house.shaft(11, 2, 1, 1);
        check.due("both", house.solved(), 3);
        house.clear();
        house.gear(4, 10);
        house.gear(4, 11);
        house.mesh(0, 1, false, -1);
        house.shaft(10, 2, 1, 1);
        house.shaft(11, 2, 1, 1);
        check.due("the one", house.solved(), 2);
    }

    /** "w of SHAFT s: what 0 its p, 1 its q. Bad". */
    private static void turnsRange() {
        MechanismHouse house = new MechanismHouse();
        for (int s = 0; s < 12; s++) {
            house.shaft(s, 1, 0, 0);
        }
        check.range("turns s", 0, 11, s -> house.turns(s, 0));
        check.range("turns what", 0, 1, what -> house.turns(0, what));
    }

    /** "a SHAFT's w is known if its row has no other number" and "missing: not known". */
    private static void turnsNotKnown() {
        MechanismHouse house = pair();
        house.gear(10, 2);
        house.gear(10, 3);
        house.mesh(2, 3, false, 4);
        house.shaft(0, 2, 1, 1);
        turns(house, 1, -1, 2);
        for (int s = 2; s < 6; s++) {
            final int shaft = s;
            check.refuses("SHAFT " + s, Check.MISSING, () -> house.turns(shaft, 0));
        }
        house.shaft(4, 1, 0, 0);
        check.refuses("the arm alone", Check.MISSING, () -> house.turns(2, 0));
        turns(house, 4, 0, 1);
        house.shaft(3, 2, 1, 3);
        turns(house, 2, -1, 3);
    }

    /** "REFUSED: solved isn't 1": 2 and 3. */
    private static void turnsRefused() {
        MechanismHouse two = pair();
        two.shaft(0, 1, 0, 0);
        two.shaft(1, 2, 1, 1);
        check.refuses("2", Check.REFUSED, () -> two.turns(0, 0));
        check.refuses("2, bad first", Check.BAD, () -> two.turns(0, 2));
        two.shaft(1, 1, 0, 0);
        turns(two, 0, 0, 1);
        MechanismHouse three = row(true, 1384, 1524, 1476, 1036, 1972, 644);
        check.refuses("3", Check.REFUSED, () -> three.turns(0, 0));
        check.refuses("3", Check.REFUSED, () -> three.turns(11, 1));
        three.shaft(0, 1, 0, 0);
        check.due("held it comes to the same rows", three.solved(), 3);
    }

    /** "za (wa - wc) + s zb (wb - wc) = 0, s 1, or -1 if it is an inner one (wc 0 for the frame)". */
    private static void frameAndArms() {
        MechanismHouse house = new MechanismHouse();
        house.gear(2000, 0);
        house.gear(4, 11);
        house.mesh(0, 1, true, -1);
        house.shaft(0, 2, 1, 1);
        turns(house, 11, 500, 1);
        house.clear();
        house.gear(2000, 0);
        house.gear(4, 11);
        house.mesh(0, 1, true, 5);
        house.shaft(0, 2, 1, 1);
        house.shaft(5, 2, 1, 1);
        turns(house, 11, 1, 1);
        house.shaft(5, 2, 1, 2);
        turns(house, 11, 501, 2);
        // Equal wheels of an inner pair turn alike, and the arm is of no account.
        house.clear();
        house.gear(20, 1);
        house.gear(20, 2);
        house.mesh(0, 1, true, 0);
        house.shaft(1, 2, 3, 4);
        turns(house, 2, 3, 4);
        check.refuses("the arm", Check.MISSING, () -> house.turns(0, 0));
    }

    private static void clash(int a, int b, boolean inner, int want) {
        MechanismHouse house = new MechanismHouse();
        house.gear(a, 0);
        house.gear(b, 0);
        check.due(a + ", " + b + (inner ? " inner" : " outer"), house.interference(0, 1, inner), want);
        check.due(b + ", " + a + (inner ? " inner" : " outer"), house.interference(1, 0, inner), want);
    }

    /** "0 if z S >= 2; else 2 (tips) if y (4 - 2 z S) > z z S - 4; else 1": the last y of each z that goes. */
    private static void interferenceOuter() {
        int[] last = {13, 16, 14, 26, 15, 45, 16, 101, 17, 1310};
        for (int k = 0; k < last.length; k += 2) {
            clash(last[k], last[k], false, 1);
            clash(last[k], last[k + 1], false, 1);
            clash(last[k], last[k + 1] + 1, false, 2);
            clash(last[k], 2000, false, 2);
        }
        for (int z = 4; z <= 12; z++) {
            clash(z, z, false, 2);
            clash(z, 2000, false, 2);
        }
        clash(18, 18, false, 0);
        clash(18, 2000, false, 0);
        clash(2000, 2000, false, 0);
    }

    /** "Of an inner pair (y the inner wheel): 1 if z S < 2; 2 if y - z < 8; else 0." */
    private static void interferenceInner() {
        clash(17, 17, true, 1);
        clash(17, 2000, true, 1);
        clash(4, 12, true, 1);
        clash(18, 18, true, 2);
        clash(18, 25, true, 2);
        clash(18, 26, true, 0);
        clash(18, 2000, true, 0);
        clash(1992, 2000, true, 0);
        clash(1993, 2000, true, 2);
    }

    /** "INTERFERENCE of GEARS a and b. Missing." */
    private static void interferenceMissing() {
        MechanismHouse house = pair();
        check.good("one and itself", () -> house.interference(1, 1, false));
        check.outside("interference a", 0, 1, Check.MISSING, a -> house.interference(a, 0, false));
        check.outside("interference b", 0, 1, Check.MISSING, b -> house.interference(0, b, true));
        check.refuses("of none", Check.MISSING, () -> new MechanismHouse().interference(0, 0, false));
    }

    /** "for p / q (1 .. 10,000 each) with teeth from low to high (4 .. 120)" and "Bad (low above high, too)". */
    private static void trainsRange() {
        MechanismHouse house = new MechanismHouse();
        check.range("trains p", 1, 10000, p -> house.trains(p, 1, 4, 5));
        check.range("trains q", 1, 10000, q -> house.trains(1, q, 4, 5));
        check.range("trains low", 4, 120, low -> house.trains(1, 1, low, 120));
        check.range("trains high", 4, 120, high -> house.trains(1, 1, 4, high));
        check.good("low is high", () -> house.trains(1, 1, 60, 60));
        check.refuses("low above high", Check.BAD, () -> house.trains(1, 1, 61, 60));
        check.refuses("low above high", Check.BAD, () -> house.trains(1, 1, 120, 4));
    }

    /** "all a, b, c, d with a c / (b d) = p / q": the greatest and the least that there can be; none at all. */
    private static void trainsOfOne() {
        MechanismHouse house = new MechanismHouse();
        check.due("900 / 1", house.trains(900, 1, 4, 120), 1);
        train(house, 0, 120, 4, 120, 4);
        check.due("1 / 900", house.trains(1, 900, 4, 120), 1);
        train(house, 0, 4, 120, 4, 120);
        check.due("901 / 1", house.trains(901, 1, 4, 120), 0);
        check.refuses("none", Check.MISSING, () -> house.train(0, 0));
        check.due("10000 / 1", house.trains(10000, 1, 4, 120), 0);
        check.due("1 / 10000", house.trains(1, 10000, 4, 120), 0);
        check.due("9 / 9", house.trains(9000, 9000, 120, 120), 1);
        train(house, 0, 120, 120, 120, 120);
        check.due("10000 / 9999", house.trains(10000, 9999, 99, 101), 1);
        train(house, 0, 100, 99, 100, 101);
    }

    private static void train(MechanismHouse house, int k, int a, int b, int c, int d) {
        int[] want = {a, b, c, d};
        for (int what = 0; what < 4; what++) {
            check.due("train(" + k + ", " + what + ")", house.train(k, what), want[what]);
        }
    }

    /** "at most 300 are kept, all counted": 299, 300, 301 of them, and many. */
    private static void threeHundred() {
        int[] asked = {5, 4, 7, 35, 299, 6, 5, 8, 36, 300, 4, 3, 13, 42, 301, 1, 1, 4, 120, 18167};
        for (int k = 0; k < asked.length; k += 5) {
            MechanismHouse house = new MechanismHouse();
            check.due("trains", house.trains(asked[k], asked[k + 1], asked[k + 2], asked[k + 3]), asked[k + 4]);
            int kept = Math.min(300, asked[k + 4]);
            check.due("count(11)", house.count(11), kept);
            check.good("the last", () -> house.train(kept - 1, 3));
            check.refuses("the next", Check.MISSING, () -> house.train(kept, 0));
        }
    }

    /** "The k-th FOUND train kept: what 0 .. 3 a, b, c, d. Bad what, missing." They are those of the latest trains. */
    private static void trainRange() {
        MechanismHouse house = new MechanismHouse();
        check.refuses("none at first", Check.MISSING, () -> house.train(0, 0));
        house.trains(3, 2, 4, 6);
        check.range("train what", 0, 3, what -> house.train(0, what));
        check.outside("train k", 0, 2, Check.MISSING, k -> house.train(k, 0));
        check.refuses("bad ahead of missing", Check.BAD, () -> house.train(3, 4));
        check.refuses("a bad call", Check.BAD, () -> house.trains(1, 1, 5, 4));
        train(house, 2, 6, 4, 6, 6);
        house.trains(901, 1, 4, 120);
        check.refuses("none now", Check.MISSING, () -> house.train(0, 0));
    }
}
