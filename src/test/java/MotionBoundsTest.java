/**
 * The boundary sentences of promises 11 to 14: step, range, spread, least. Above each test stands the sentence that
 * it holds.
 */
public final class MotionBoundsTest {
    private static final Check check = new Check();
    private static final long ONE = 65536;
    private static final long FAR = 1L << 31;
    // SURE from 818 over 0 to 172, NONE elsewhere.
    private static final String ROCKER = "fix A 0 0;fix B 4 0;crank C A 3 0 1 0;dyad D C B 2 2 ?;";
    // DOUBTFUL at 509, 510, 511 and 513, SURE elsewhere.
    private static final String DOUBTER = "fix A 0 0;fix B 3 0;crank C A 1 0 1 0;dyad D C B 5/2 3/2 ?;";
    // OPEN at 1023 and 0, SURE elsewhere.
    private static final String OPENER = "fix A 0 0;fix B 1 0;crank C A 1 0 1 0;dyad D C B 9/8 9/8 ?;";
    // SURE at 0 alone.
    private static final String STRETCHED = "fix A 0 0;fix B 9 0;crank C A 1 0 1 0;dyad D C B 4 4 ?;";
    private static final String NOWHERE = "fix A 0 0;fix B 40 0;crank C A 1 0 1 0;dyad D C B 4 4 ?;";

    public static void main(String[] args) {
        stepRange();
        stepRound();
        stepStays();
        stepRefused();
        rangeRange();
        rangeAll();
        rangeNone();
        rangeRuns();
        rangeOthers();
        spreadRange();
        spreadMissing();
        spreadOfOnePlace();
        leastRange();
        leastMissing();
        leastOpen();
        placesStay();
        check.close();
    }

    private static MechanismHouse at(String text, int k) {
        MechanismHouse house = Check.linked(text);
        house.input(0, k);
        return house;
    }

    /** "INPUT i goes by n (-1,023 .. 1,023) places .. Bad": w 0 .. 255, i 0 .. 3, n. */
    private static void stepRange() {
        MechanismHouse house = Check.linked(ROCKER);
        check.range("step w", 0, 255, w -> house.step(w, 0, 0));
        check.range("step i", 0, 3, i -> house.step(0, i, 0));
        check.range("step n", -1023, 1023, n -> house.step(0, 1, n));
        check.due("n 0 goes nowhere", house.step(0, 2, 0), 0);
        check.due("n 1023", Check.linked("").step(0, 0, 1023), 1023);
        check.due("n -1023", Check.linked("").step(0, 0, -1023), 1);
    }

    /** "INPUTS 0 .. 3: places 0 .. 1,023": a step over the end of the circle, both ways. */
    private static void stepRound() {
        MechanismHouse house = Check.linked("");
        for (int i = 0; i < 4; i++) {
            check.due("0 to 1023", house.step(0, i, -1), 1023);
            check.due("1023 to 0", house.step(0, i, 1), 0);
            check.due("over the end", house.step(0, i, -3), 1021);
            check.due("over it again", house.step(0, i, 1023), 1020);
        }
    }

    /** "one by one as long as way w is SURE there (it stays at the last one): its place." */
    private static void stepStays() {
        check.due("up to where it is NOT", at(ROCKER, 0).step(0, 0, 1023), 172);
        check.due("down to there", at(ROCKER, 0).step(0, 0, -1023), 818);
        check.due("just there", at(ROCKER, 171).step(0, 0, 1), 172);
        check.due("no more", at(ROCKER, 172).step(0, 0, 1), 172);
        check.due("no more", at(ROCKER, 818).step(1, 0, -1023), 818);
        check.due("up to where it is DOUBTFUL", at(DOUBTER, 0).step(0, 0, 1023), 508);
        check.due("down to there", at(DOUBTER, 0).step(0, 0, -1023), 514);
        check.due("between two", at(DOUBTER, 512).step(0, 0, 1), 512);
        check.due("between two", at(DOUBTER, 512).step(0, 0, -1023), 512);
        check.due("up to where it is OPEN", at(OPENER, 1).step(0, 0, 1023), 1022);
        check.due("down to there", at(OPENER, 1022).step(1, 0, -1023), 1);
        check.due("no more", at(OPENER, 1).step(1, 0, -1), 1);
        MechanismHouse house = at(ROCKER, 100);
        check.due("it stays", house.step(0, 0, 500), 172);
        check.due("count tells it", house.count(2), 172);
        check.due("the others stay", house.count(3) + house.count(4) + house.count(5), 0);
    }

    /** "REFUSED: w isn't SURE now": it is NOT, DOUBTFUL, OPEN; by n 0, too. */
    private static void stepRefused() {
        MechanismHouse not = at(ROCKER, 173);
        check.refuses("NOT", Check.REFUSED, () -> not.step(0, 0, -1));
        check.refuses("NOT, by 0", Check.REFUSED, () -> not.step(0, 0, 0));
        check.refuses("NOT, another INPUT", Check.REFUSED, () -> not.step(0, 3, 1));
        check.due("the place stays", not.count(2), 173);
        check.due("the other's too", not.count(5), 0);
        MechanismHouse doubtful = at(DOUBTER, 513);
        check.refuses("DOUBTFUL", Check.REFUSED, () -> doubtful.step(0, 0, 1));
        MechanismHouse open = at(OPENER, 0);
        check.refuses("OPEN", Check.REFUSED, () -> open.step(0, 0, 1));
        check.refuses("OPEN", Check.REFUSED, () -> open.step(255, 0, 1));
        // Only the way that is asked for counts: D is bound by the sign of C alone.
        MechanismHouse one = Check.linked("fix A 0 0;fix B 6 0;dyad C A B 5 5 ?;fix G 3 10;dyad D C G 2 5 +;");
        check.due("way 0 is SURE", one.step(0, 0, 1), 1);
        check.refuses("way 1 is NOT", Check.REFUSED, () -> one.step(1, 0, 1));
    }

    private static void range(MechanismHouse house, int w, int i, int places, int runs, int least) {
        check.due("range(" + w + ", " + i + ", 0)", house.range(w, i, 0), places);
        check.due("range(" + w + ", " + i + ", 1)", house.range(w, i, 1), runs);
        check.due("range(" + w + ", " + i + ", 2)", house.range(w, i, 2), least);
    }

    /** "Bad (what 0 .. 2)": w and i, too. */
    private static void rangeRange() {
        MechanismHouse house = Check.linked(ROCKER);
        check.range("range w", 0, 255, w -> house.range(w, 0, 0));
        check.range("range i", 0, 3, i -> house.range(0, i, 0));
        check.range("range what", 0, 2, what -> house.range(0, 0, what));
    }

    /** "1 how many runs of them (round the circle; all: 1), 2 the least place that begins one (all: 0". */
    private static void rangeAll() {
        range(new MechanismHouse(), 0, 0, 1024, 1, 0);
        range(Check.linked("fix A 0 0;crank B A 1 0 1 0;"), 255, 0, 1024, 1, 0);
        range(Check.linked("fix A 0 0;fix B 3 0;crank C A 1 0 1 0;dyad D C B 3 3 ?;"), 1, 0, 1024, 1, 0);
    }

    /** "none: -1)". */
    private static void rangeNone() {
        range(Check.linked(NOWHERE), 0, 0, 0, 0, -1);
        range(Check.linked(NOWHERE), 1, 3, 0, 0, -1);
        range(Check.linked("fix A 0 0;fix B 0 0;dyad C A B 1 1 +;"), 0, 0, 0, 0, -1);
        range(Check.linked("fix A 0 0;fix B 3 0;dyad C A B 1 2 +;"), 0, 0, 0, 0, -1);
    }

    /** A run over the end of the circle, of one place, of all places but two; several of them. */
    private static void rangeRuns() {
        range(Check.linked(ROCKER), 0, 0, 379, 1, 818);
        range(Check.linked(DOUBTER), 1, 0, 1020, 2, 512);
        range(Check.linked(OPENER), 0, 0, 1022, 1, 1);
        range(Check.linked(STRETCHED), 0, 0, 1, 1, 0);
        int[] turned = {256, 512, 768};
        for (int k = 0; k < turned.length; k++) {
            String text = STRETCHED.replace("1 0 1 0", "1 0 1 " + turned[k]);
            range(Check.linked(text), 1, 0, 1, 1, 1024 - turned[k]);
        }
        range(Check.linked(STRETCHED.replace("1 0 1 0", "1 0 2 0")), 0, 0, 2, 2, 0);
        range(Check.linked(STRETCHED.replace("1 0 1 0", "1 0 4 0")), 0, 0, 4, 4, 0);
        range(Check.linked(STRETCHED.replace("1 0 1 0", "1 0 -8 0")), 0, 0, 4, 4, 0);
        range(Check.linked(ROCKER.replace("3 0 1 0", "3 0 8 0")), 0, 0, 392, 8, 85);
    }

    /** "(the other INPUTS as they are)". */
    private static void rangeOthers() {
        MechanismHouse house = Check.linked(ROCKER);
        int[] places = {172, 173, 817, 818};
        for (int k = 0; k < places.length; k++) {
            boolean sure = places[k] == 172 || places[k] == 818;
            house.input(0, places[k]);
            range(house, 0, 1, sure ? 1024 : 0, sure ? 1 : 0, sure ? 0 : -1);
            range(house, 0, 0, 379, 1, 818);
        }
    }

    /** "POINT p's axis: side 0 the least lesser number, 1 the greatest greater one. Bad". */
    private static void spreadRange() {
        MechanismHouse house = Check.linked(ROCKER);
        check.range("spread w", 0, 255, w -> house.spread(w, 0, 3, 0, 0));
        check.range("spread i", 0, 3, i -> house.spread(0, i, 3, 0, 0));
        check.range("spread axis", 0, 1, axis -> house.spread(0, 0, 3, axis, 0));
        check.range("spread side", 0, 1, side -> house.spread(0, 0, 3, 0, side));
        check.refuses("bad ahead of missing", Check.BAD, () -> house.spread(0, 0, 4, 0, 2));
    }

    /** "missing: POINT, no place." */
    private static void spreadMissing() {
        MechanismHouse house = Check.linked(ROCKER);
        check.good("the first POINT", () -> house.spread(0, 0, 0, 0, 0));
        check.good("the last POINT", () -> house.spread(0, 0, 3, 0, 0));
        check.outside("spread p", 0, 3, Check.MISSING, p -> house.spread(0, 0, p, 0, 0));
        MechanismHouse nowhere = Check.linked(NOWHERE);
        check.refuses("no place", Check.MISSING, () -> nowhere.spread(0, 0, 0, 0, 0));
        house.input(0, 173);
        check.refuses("no place of INPUT 1", Check.MISSING, () -> house.spread(0, 1, 0, 0, 0));
        check.good("places of INPUT 0", () -> house.spread(0, 0, 0, 0, 0));
    }

    /** "Over all places of INPUT i where way w is SURE": one place alone; the ends of a run and not what is beyond. */
    private static void spreadOfOnePlace() {
        MechanismHouse one = Check.linked(STRETCHED);
        for (int side = 0; side < 2; side++) {
            check.due("C's x", one.spread(0, 0, 2, 0, side), ONE);
            check.due("C's y", one.spread(0, 0, 2, 1, side), 0);
            check.due("D's x", one.spread(0, 0, 3, 0, side), 5 * ONE);
        }
        MechanismHouse rocker = at(ROCKER, 172);
        long high = rocker.at(0, 2, 1, 1);
        long left = rocker.at(0, 2, 0, 0);
        rocker.input(0, 818);
        long low = rocker.at(0, 2, 1, 0);
        left = Math.min(left, rocker.at(0, 2, 0, 0));
        rocker.input(0, 500);
        check.due("C's y at 172", rocker.spread(0, 0, 2, 1, 1), high);
        check.due("C's y at 818", rocker.spread(0, 0, 2, 1, 0), low);
        check.due("C's least x at an end", rocker.spread(0, 0, 2, 0, 0), left);
        check.due("C's greatest x at 0", rocker.spread(0, 0, 2, 0, 1), 3 * ONE);
    }

    /** "of the squares of distances of POINTS p and q .. the least lesser (side 0), the least greater number (1). Bad". */
    private static void leastRange() {
        MechanismHouse house = Check.linked(ROCKER);
        check.range("least w", 0, 255, w -> house.least(w, 0, 3, 0, 0));
        check.range("least i", 0, 3, i -> house.least(0, i, 3, 0, 0));
        check.range("least side", 0, 1, side -> house.least(0, 0, 3, 0, side));
        check.refuses("bad ahead of missing", Check.BAD, () -> house.least(0, 0, 4, 4, 2));
        check.due("one and itself", house.least(0, 0, 1, 1, 1), 0);
    }

    /** "missing: POINT, none." */
    private static void leastMissing() {
        MechanismHouse house = Check.linked(ROCKER);
        check.good("the first and the last", () -> house.least(0, 0, 0, 3, 0));
        check.outside("least p", 0, 3, Check.MISSING, p -> house.least(0, 0, p, 0, 0));
        check.outside("least q", 0, 3, Check.MISSING, q -> house.least(0, 0, 0, q, 0));
        MechanismHouse nowhere = Check.linked(NOWHERE);
        check.refuses("no place", Check.MISSING, () -> nowhere.least(0, 0, 0, 1, 0));
        house.input(0, 173);
        check.refuses("no place of INPUT 1", Check.MISSING, () -> house.least(0, 1, 0, 1, 0));
    }

    /** "(OPEN ones are left out)": 2^31 isn't OPEN, a part more is. */
    private static void leastOpen() {
        String far = "fix O 0 0;fix V 8 0;fix H 1/8 0;body E O H 1/8192 0;body P O V 16 16;crank A E 8 0 0 0;"
                + "body B E A 16 16;";
        MechanismHouse house = Check.linked(far);
        check.due("128, 128 off", house.least(0, 0, 0, 4, 0), FAR);
        check.due("128, 128 off", house.least(0, 0, 4, 0, 1), FAR);
        check.due("B is a part farther", house.at(0, 6, 0, 0), 128 * ONE + 1);
        check.refuses("128 and a part, 128 off", Check.MISSING, () -> house.least(0, 0, 0, 6, 0));
        // Near at some places, OPEN at others: only those that aren't count.
        MechanismHouse some = Check.linked("fix A 0 0;fix B 50 0;body C A B 4 0;crank D A 30 0 1 0;");
        check.due("170 off at place 0", some.least(0, 0, 3, 2, 0), 170 * 170 * ONE);
        some.input(0, 512);
        check.refuses("230 off at place 512", Check.MISSING, () -> some.least(0, 1, 3, 2, 0));
    }

    /** Over all places is asked, none is left where it wasn't: of INPUTS and of ways. */
    private static void placesStay() {
        MechanismHouse house = at(ROCKER, 100);
        house.input(3, 1023);
        long x = house.at(0, 3, 0, 0);
        house.range(1, 0, 0);
        house.spread(1, 0, 3, 0, 0);
        house.least(1, 3, 3, 0, 0);
        check.due("INPUT 0", house.count(2), 100);
        check.due("INPUT 3", house.count(5), 1023);
        check.due("D's x", house.at(0, 3, 0, 0), x);
    }
}
