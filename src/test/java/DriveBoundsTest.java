/**
 * The boundary sentences on DRIVES and of promises 40 and 41: drive, event. Those on a DRIVE's TEXT stand in
 * TextBoundsTest. Above each test stands the sentence that it holds.
 */
public final class DriveBoundsTest {
    private static final Check check = new Check();
    // SURE from 818 over 0 to 172, NONE elsewhere.
    private static final String ROCKER = "fix A 0 0;fix B 4 0;crank C A 3 0 1 0;dyad D C B 2 2 ?;";
    // DOUBTFUL at 509, 510, 511 and 513, SURE elsewhere.
    private static final String DOUBTER = "fix A 0 0;fix B 3 0;crank C A 1 0 1 0;dyad D C B 5/2 3/2 ?;";
    // OPEN at 1023 and 0, SURE elsewhere.
    private static final String OPENER = "fix A 0 0;fix B 1 0;crank C A 1 0 1 0;dyad D C B 9/8 9/8 ?;";
    private static final String FREE = "fix A 0 0;crank C A 1 0 1 0;";

    public static void main(String[] args) {
        toItsEnd();
        turnSteps();
        roundTheCircle();
        barred();
        barredCounts();
        notSureAtFirst();
        tiredBehind2000();
        tiredOrBarred();
        tiredOrDone();
        untilAhead();
        untilBehindTheLast();
        untilAbove();
        untilRoundedDown();
        untilNotSure();
        againTimes();
        againFromTheLatest();
        wayAtFirst();
        eventRange();
        hundredEvents();
        eventsOfTheLatest();
        faultLeavesTheRun();
        check.close();
    }

    private static MechanismHouse at(String text, int k) {
        MechanismHouse house = Check.linked(text);
        house.input(0, k);
        return house;
    }

    /** A DRIVE, what it comes to, its steps, and all its events: STATEMENT, INPUT, place. */
    private static void run(MechanismHouse house, String text, int outcome, int steps, int... events) {
        Check.type(house, text);
        check.due("drive of " + text, house.drive(), outcome);
        check.due("count(8) of " + text, house.count(8), steps);
        check.due("count(9) of " + text, house.count(9), events.length / 3);
        for (int k = 0; k < events.length; k++) {
            check.due("event(" + k / 3 + ", " + k % 3 + ") of " + text, house.event(k / 3, k % 3), events[k]);
        }
        check.refuses("event behind the last", Check.MISSING, () -> house.event(events.length / 3, 0));
    }

    /** "A DRIVE is read and run: 0 to its end": of no STATEMENTS, without a LINKAGE, without a step. */
    private static void toItsEnd() {
        run(new MechanismHouse(), "", 0, 0);
        run(new MechanismHouse(), "turn 3 1023;", 0, 1023, 0, 3, 1023);
        run(new MechanismHouse(), "way 255;again 9;", 0, 0);
        run(at(ROCKER, 500), "turn 0 0;", 0, 0, 0, 0, 500);
        run(at(ROCKER, 500), "until 0 0 A + -1;", 0, 0, 0, 0, 500);
    }

    /** "turn I T; (from its place T steps (-1,023 .. 1,023) one by one)". */
    private static void turnSteps() {
        run(at(FREE, 0), "turn 0 1;", 0, 1, 0, 0, 1);
        run(at(FREE, 0), "turn 0 -1;", 0, 1, 0, 0, 1023);
        run(at(FREE, 0), "turn 0 1023;", 0, 1023, 0, 0, 1023);
        run(at(FREE, 0), "turn 0 -1023;", 0, 1023, 0, 0, 1);
        run(at(FREE, 700), "turn 0 1000;turn 0 -1000;", 0, 2000, 0, 0, 676, 1, 0, 700);
    }

    /** "INPUT i goes one on (or back; modulo 1,024)". */
    private static void roundTheCircle() {
        MechanismHouse house = at(FREE, 1023);
        run(house, "turn 0 1;turn 1 -1;turn 2 -1;turn 2 2;", 0, 5, 0, 0, 0, 1, 1, 1023, 2, 2, 1023, 3, 2, 1);
        check.due("INPUT 0", house.count(2), 0);
        check.due("INPUT 1", house.count(3), 1023);
        check.due("INPUT 2", house.count(4), 1);
        check.due("INPUT 3", house.count(5), 0);
    }

    /** "if the way is SURE there; else it goes back and the run ends: BARRED": where it is NOT, DOUBTFUL, OPEN. */
    private static void barred() {
        MechanismHouse house = at(ROCKER, 171);
        run(house, "turn 0 1;turn 0 1;turn 1 1;", 1, 2, 0, 0, 172);
        check.due("NOT: it went back", house.count(2), 172);
        check.due("what follows isn't done", house.count(3), 0);
        house = at(DOUBTER, 507);
        run(house, "turn 0 1023;", 1, 2);
        check.due("DOUBTFUL: it went back", house.count(2), 508);
        house = at(DOUBTER, 512);
        run(house, "turn 1 1;turn 0 -1;", 1, 2, 0, 1, 1);
        check.due("between two", house.count(2), 512);
        house = at(OPENER, 2);
        run(house, "turn 0 -5;", 1, 2);
        check.due("OPEN: it went back", house.count(2), 1);
        house = at(OPENER, 1020);
        run(house, "until 0 9 B + 3;", 1, 3);
        check.due("until, too", house.count(2), 1022);
    }

    /** "(A step whose way isn't SURE counts as one.)" */
    private static void barredCounts() {
        run(at(ROCKER, 172), "turn 0 1;", 1, 1);
        run(at(ROCKER, 818), "turn 0 -1023;", 1, 1);
        run(at(ROCKER, 0), "turn 0 1023;", 1, 173);
    }

    /** "each step: INPUT i goes one on .. if the way is SURE there": there, not where it comes from. */
    private static void notSureAtFirst() {
        run(at(ROCKER, 817), "turn 0 1;", 0, 1, 0, 0, 818);
        run(at(ROCKER, 173), "turn 0 -2;", 0, 2, 0, 0, 171);
        run(at(ROCKER, 816), "turn 0 2;", 1, 1);
        run(at(OPENER, 0), "turn 0 1;turn 0 -1;", 1, 2, 0, 0, 1);
        MechanismHouse house = at(ROCKER, 300);
        run(house, "turn 1 1;", 1, 1);
        check.due("another INPUT", house.count(3), 0);
    }

    /** "at most 2,000 steps (the next one: ended, TIRED)". */
    private static void tiredBehind2000() {
        run(at(FREE, 0), "turn 0 1000;turn 0 1000;", 0, 2000, 0, 0, 1000, 1, 0, 976);
        MechanismHouse house = at(FREE, 0);
        run(house, "turn 0 1000;turn 0 1000;turn 0 1;", 2, 2000, 0, 0, 1000, 1, 0, 976);
        check.due("it stays there", house.count(2), 976);
        run(house, "turn 0 999;turn 0 1000;turn 0 1;", 0, 2000, 0, 0, 951, 1, 0, 927, 2, 0, 928);
        run(house, "turn 0 999;turn 0 1000;turn 0 2;turn 1 0;", 2, 2000, 0, 0, 903, 1, 0, 879);
        check.due("the one step is done", house.count(2), 880);
        run(house, "turn 1 1023;until 1 1023 A + 1;", 2, 2000, 0, 1, 1023);
        check.due("in the midst of an until", house.count(3), 976);
        run(house, "turn 2 1;", 0, 1, 0, 2, 1);
    }

    /** The 2,000th step may be BARRED; the next one is none any more. */
    private static void tiredOrBarred() {
        run(at(ROCKER, 172), "turn 1 1000;turn 1 999;turn 0 1;", 1, 2000, 0, 1, 1000, 1, 1, 975);
        run(at(ROCKER, 172), "turn 1 1000;turn 1 1000;turn 0 1;", 2, 2000, 0, 1, 1000, 1, 1, 976);
    }

    /** What takes no step is done behind 2,000 of them. */
    private static void tiredOrDone() {
        run(at(FREE, 0), "turn 1 1000;turn 1 1000;turn 0 0;way 3;until 0 5 C + 0;turn 3 0;", 0, 2000,
                0, 1, 1000, 1, 1, 976, 2, 0, 0, 4, 0, 0, 5, 3, 0);
        run(at(FREE, 0), "turn 1 1000;turn 1 1000;until 0 5 C + 1;", 2, 2000, 0, 1, 1000, 1, 1, 976);
    }

    /** "ahead of each step .. it ends, if": ahead of the first one, too. */
    private static void untilAhead() {
        run(at(FREE, 0), "until 0 1023 C + 0;", 0, 0, 0, 0, 0);
        run(at(FREE, 0), "until 0 -1023 C - -1;", 0, 0, 0, 0, 0);
        // C's y is 512 r / (65536 + r r): at 1 it is 511 .. 512 parts.
        run(at(FREE, 0), "until 0 1023 C - 0;", 0, 1, 0, 0, 1);
        run(at(FREE, 0), "until 0 1 C - 0;", 0, 1, 0, 0, 1);
        run(at(FREE, 0), "until 0 0 C - 0;", 0, 0, 0, 0, 0);
        run(at(FREE, 1023), "until 0 5 C - 0;", 0, 2, 0, 0, 1);
    }

    /** "and behind the last": T steps are all that there are. */
    private static void untilBehindTheLast() {
        run(at(FREE, 0), "until 0 68 C - 1/2;turn 1 1;", 0, 69, 0, 0, 68, 1, 1, 1);
        run(at(FREE, 0), "until 0 69 C - 1/2;turn 1 1;", 0, 70, 0, 0, 69, 1, 1, 1);
        run(at(FREE, 0), "until 0 70 C - 1/2;turn 1 1;", 0, 70, 0, 0, 69, 1, 1, 1);
    }

    /** "C's x (+) or y (-) has its lesser number above V": not where it is V. */
    private static void untilAbove() {
        String text = "fix O 1/3 -1/3;fix P 2 -2;crank C O 1 0 1 0;";
        run(at(text, 0), "until 0 3 P + 2;", 0, 3, 0, 0, 3);
        run(at(text, 0), "until 0 3 P + 9998/5000;", 0, 0, 0, 0, 0);
        run(at(text, 0), "until 0 3 P - -2;", 0, 3, 0, 0, 3);
        run(at(text, 0), "until 0 3 P - -9999/4999;", 0, 0, 0, 0, 0);
        // The lesser numbers are 21845 and -21846.
        run(at(text, 0), "until 0 3 O + 1/3;", 0, 3, 0, 0, 3);
        run(at(text, 0), "until 0 3 O + 3332/9997;", 0, 0, 0, 0, 0);
        run(at(text, 0), "until 0 3 O - -1/3;", 0, 3, 0, 0, 3);
        run(at(text, 0), "until 0 3 O - -3334/9999;", 0, 0, 0, 0, 0);
        run(at(text, 0), "until 0 3 P + 9999;until 0 -3 P + -9999;", 0, 3, 0, 0, 3, 1, 0, 3);
    }

    /** "V (FRACTION) 2^16 rounded down": 1 / 9,999 comes to 6, -1 / 9,999 to -7. */
    private static void untilRoundedDown() {
        String text = "fix O 0 0;fix H 1/8 0;body P O H 7/8192 -7/8192;body Q O H 6/8192 -6/8192;";
        MechanismHouse parts = Check.linked(text);
        check.due("P's x", parts.at(0, 2, 0, 0), 7);
        check.due("Q's y", parts.at(0, 3, 1, 0), -6);
        run(at(text, 0), "until 0 3 P + 1/9999;", 0, 0, 0, 0, 0);
        run(at(text, 0), "until 0 3 Q + 1/9999;", 0, 3, 0, 0, 3);
        run(at(text, 0), "until 0 3 Q - -1/9999;", 0, 0, 0, 0, 0);
        run(at(text, 0), "until 0 3 P - -1/9999;", 0, 3, 0, 0, 3);
    }

    /** "it ends, if the way is SURE there": where it isn't, the step is tried. */
    private static void untilNotSure() {
        run(at(ROCKER, 173), "until 0 -1023 B + 3;", 0, 1, 0, 0, 172);
        run(at(ROCKER, 174), "until 0 -1023 B + 3;", 1, 1);
        run(at(ROCKER, 172), "until 0 -1023 B + 3;", 0, 0, 0, 0, 172);
        run(at(OPENER, 0), "until 0 5 A + -1;", 0, 1, 0, 0, 1);
        run(at(DOUBTER, 511), "until 0 5 A + -1;", 0, 1, 0, 0, 512);
        run(at(DOUBTER, 511), "until 0 0 A + -1;", 0, 0, 0, 0, 511);
        // Whose way: the one that was told last.
        String text = "fix A 0 0;fix B 6 0;dyad C A B 5 5 ?;fix G 3 10;dyad E C G 2 6 +;";
        run(at(text, 0), "until 0 5 A + -1;way 1;until 0 5 A + -1;", 1, 1, 0, 0, 0);
    }

    /** "again N; (the STATEMENTS before it .. N times more; 1 .. 9)". */
    private static void againTimes() {
        for (int n = 1; n <= 9; n++) {
            MechanismHouse house = at(FREE, 0);
            Check.type(house, "turn 0 1;turn 1 2;again " + n + ";");
            check.due("drive", house.drive(), 0);
            check.due("steps", house.count(8), 3 * (n + 1));
            check.due("events", house.count(9), 2 * (n + 1));
            check.due("INPUT 0", house.count(2), n + 1);
            check.due("INPUT 1", house.count(3), 2 * (n + 1));
        }
        run(at(FREE, 0), "again 9;", 0, 0);
        run(at(FREE, 0), "again 9;again 9;turn 0 1;", 0, 1, 2, 0, 1);
    }

    /** "from the beginning or the latest again". */
    private static void againFromTheLatest() {
        run(at(FREE, 0), "turn 0 1;again 1;turn 1 1;again 1;", 0, 4, 0, 0, 1, 0, 0, 2, 2, 1, 1, 2, 1, 2);
        run(at(FREE, 0), "turn 0 1;again 1;again 1;turn 1 1;again 1;", 0, 4, 0, 0, 1, 0, 0, 2, 3, 1, 1, 3, 1, 2);
        // As many as there can be: 39 STATEMENTS ten times.
        StringBuilder text = new StringBuilder();
        for (int k = 0; k < 39; k++) {
            text.append("turn 0 1;");
        }
        MechanismHouse house = at(FREE, 0);
        Check.type(house, text + "again 9;");
        check.due("drive", house.drive(), 0);
        check.due("steps", house.count(8), 390);
        check.due("events", house.count(9), 390);
        // And an again behind each one.
        text = new StringBuilder();
        for (int k = 0; k < 20; k++) {
            text.append("turn 0 1;again 9;");
        }
        Check.type(house, text.toString());
        check.due("drive", house.drive(), 0);
        check.due("steps", house.count(8), 200);
        check.due("INPUT 0", house.count(2), 590);
    }

    /** "way 0 at first" and "way W; (0 .. 255)": bits of no ? are left out; a way holds till the next one. */
    private static void wayAtFirst() {
        // In way 1 E is NONE.
        String text = "fix A 0 0;fix B 6 0;dyad C A B 5 5 ?;fix G 3 10;dyad E C G 2 6 +;";
        run(at(text, 0), "turn 0 1;", 0, 1, 0, 0, 1);
        run(at(text, 0), "way 1;turn 0 1;", 1, 1);
        run(at(text, 0), "way 1;way 0;turn 0 1;", 0, 1, 2, 0, 1);
        run(at(text, 0), "way 254;turn 0 1;", 0, 1, 1, 0, 1);
        run(at(text, 0), "way 255;turn 0 1;", 1, 1);
        run(at(text, 0), "turn 0 1;way 1;again 1;", 1, 2, 0, 0, 1);
        MechanismHouse house = at(text, 0);
        run(house, "way 1;", 0, 0);
        run(house, "turn 0 1;", 0, 1, 0, 0, 1);
    }

    /** "Event k of the latest run (none at first): what 0 .., 1 .., 2 its place. Bad; missing." */
    private static void eventRange() {
        MechanismHouse house = at(FREE, 0);
        check.outside("none at first", 0, -1, Check.MISSING, k -> house.event(k, 0));
        check.refuses("none at first", Check.MISSING, () -> house.event(0, 0));
        Check.type(house, "way 7;turn 0 5;again 1;turn 3 -1;");
        house.drive();
        check.range("event what", 0, 2, what -> house.event(2, what));
        check.outside("event k", 0, 2, Check.MISSING, k -> house.event(k, 0));
        check.refuses("bad ahead of missing", Check.BAD, () -> house.event(3, 3));
        int[] want = {1, 0, 5, 1, 0, 10, 3, 3, 1023};
        for (int k = 0; k < want.length; k++) {
            check.due("event(" + k / 3 + ", " + k % 3 + ")", house.event(k / 3, k % 3), want[k]);
        }
    }

    /** "the first 100 are kept" and count's "9 its events (all)": 99, 100, 101 of them. */
    private static void hundredEvents() {
        String ten = "turn 0 1;again 9;";
        StringBuilder ninety = new StringBuilder();
        for (int k = 0; k < 9; k++) {
            ninety.append(ten);
        }
        String[] rest = {"turn 0 1;again 8;", ten, ten + "turn 1 1;"};
        for (int k = 0; k < rest.length; k++) {
            MechanismHouse house = at(FREE, 0);
            Check.type(house, ninety + rest[k]);
            check.due("drive", house.drive(), 0);
            check.due("all of them", house.count(9), 99 + k);
            int kept = Math.min(100, 99 + k);
            check.due("the last one's STATEMENT", house.event(kept - 1, 0), 18);
            check.due("the last one's INPUT", house.event(kept - 1, 1), 0);
            check.due("the last one's place", house.event(kept - 1, 2), kept);
            check.outside("event k", 0, kept - 1, Check.MISSING, n -> house.event(n, 2));
        }
    }

    /** "Event k of the latest run": a run with fewer leaves none of the one before; BARRED and TIRED ones count. */
    private static void eventsOfTheLatest() {
        MechanismHouse house = at(ROCKER, 0);
        run(house, "turn 1 1;turn 1 1;turn 1 1;", 0, 3, 0, 1, 1, 1, 1, 2, 2, 1, 3);
        run(house, "turn 1 4;", 0, 4, 0, 1, 7);
        run(house, "turn 1 1;turn 0 1023;", 1, 174, 0, 1, 8);
        run(house, "turn 0 1;", 1, 1);
        run(house, "", 0, 0);
    }

    /** "a FAULT": the run before it stays the latest, and no INPUT goes. */
    private static void faultLeavesTheRun() {
        MechanismHouse house = at(FREE, 0);
        run(house, "turn 0 5;turn 1 -1;", 0, 6, 0, 0, 5, 1, 1, 1023);
        String[] faulty = {"turn 0 1", "turn 0 1;turn 4 1;", "turn 0 1;until 0 1 Z + 0;"};
        int[] numbers = {1, 5, 3};
        int[] places = {8, 14, 19};
        for (int k = 0; k < faulty.length; k++) {
            check.faulty(faulty[k], numbers[k], places[k], house, () -> house.drive());
            check.due("INPUT 0", house.count(2), 5);
            check.due("INPUT 1", house.count(3), 1023);
            check.due("steps", house.count(8), 6);
            check.due("events", house.count(9), 2);
            check.due("the last event", house.event(1, 2), 1023);
        }
    }
}
