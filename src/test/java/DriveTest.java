/** Promises 40 and 41: drive, event. */
public final class DriveTest {
    private static final Check check = new Check();
    private static final String ROCKER = "fix A 0 0;fix B 4 0;crank C A 3 0 1 0;dyad D C B 2 2 ?;";
    private static final String TURNER = "fix A 0 0;fix B 4 0;crank C A 1 0 1 0;dyad D C B 3 3 ?;";

    public static void main(String[] args) {
        turns();
        barred();
        untils();
        agains();
        waysOfIt();
        tired();
        manyEvents();
        faults();
        keeping();
        check.close();
    }

    private static void run(MechanismHouse house, String text, int outcome, int steps, int... events) {
        Check.type(house, text);
        check.due("drive of " + text, house.drive(), outcome);
        check.due("count(8) of " + text, house.count(8), steps);
        check.due("count(9) of " + text, house.count(9), events.length / 3);
        check.due("count(10) of " + text, house.count(10), 0);
        check.due("fault(0) of " + text, house.fault(0), 0);
        for (int k = 0; k < events.length; k++) {
            check.due("event(" + k / 3 + ", " + k % 3 + ") of " + text, house.event(k / 3, k % 3), events[k]);
        }
        check.refuses("event behind the last", Check.MISSING, () -> house.event(events.length / 3, 0));
        check.refuses("event(-1, 0)", Check.MISSING, () -> house.event(-1, 0));
        check.refuses("event what", Check.BAD, () -> house.event(0, 3));
        check.refuses("event what", Check.BAD, () -> house.event(0, -1));
    }

    private static void turns() {
        MechanismHouse house = Check.linked(TURNER);
        run(house, "", 0, 0);
        run(house, "turn 0 5;", 0, 5, 0, 0, 5);
        run(house, "turn 0 -7;turn 3 -1;turn 1 1023;", 0, 1031, 0, 0, 1022, 1, 3, 1023, 2, 1, 1023);
        check.due("count(2)", house.count(2), 1022);
        check.due("count(5)", house.count(5), 1023);
        run(house, "turn 0 0;", 0, 0, 0, 0, 1022);
        run(new MechanismHouse(), "turn 2 3;", 0, 3, 0, 2, 3);
    }

    private static void barred() {
        MechanismHouse house = Check.linked(ROCKER);
        run(house, "turn 0 100;turn 0 100;turn 0 1;", 1, 173, 0, 0, 100);
        check.due("count(2)", house.count(2), 172);
        run(house, "turn 0 -1023;", 1, 379);
        check.due("count(2)", house.count(2), 818);
        house.input(0, 500);
        run(house, "turn 1 1;", 1, 1);
        check.due("it goes back", house.count(3), 0);
        run(house, "turn 0 0;", 0, 0, 0, 0, 500);
        house.input(0, 817);
        run(house, "turn 0 2;", 0, 2, 0, 0, 819);
    }

    private static void untils() {
        MechanismHouse house = Check.linked(TURNER);
        // C's y is 512 r / (65536 + r r): above 1 / 2 from 69 on.
        run(house, "until 0 1023 C - 1/2;", 0, 69, 0, 0, 69);
        run(house, "until 0 1023 C - 1/2;", 0, 0, 0, 0, 69);
        run(house, "until 0 -9 C - 60;", 0, 9, 0, 0, 60);
        house.input(0, 0);
        // Above: at 256 C's y is 1, but not more than that; and x is never above 1.
        run(house, "until 0 300 C - 1;", 0, 300, 0, 0, 300);
        house.input(0, 0);
        run(house, "until 0 300 C - 9998/9999;", 0, 253, 0, 0, 253);
        house.input(0, 512);
        // 2^16 V is rounded down below 0, too.
        run(house, "until 0 500 C + -9999/9998;", 0, 0, 0, 0, 512);
        run(house, "until 0 500 C + -1;", 0, 1, 0, 0, 513);
        run(house, "until 0 0 C + 9999;", 0, 0, 0, 0, 513);
        // At 128 C stands at 3 / 5, 4 / 5: its lesser numbers are not above these.
        house.input(0, 100);
        run(house, "until 0 99 C - 4/5;", 0, 29, 0, 0, 129);
        house.input(0, 150);
        run(house, "until 0 -99 C + 3/5;", 0, 23, 0, 0, 127);
        MechanismHouse rocker = Check.linked(ROCKER);
        run(rocker, "until 0 1023 C - 2;until 0 1023 C - 3;", 1, 173, 0, 0, 98);
        rocker.input(0, 500);
        // The way isn't SURE there, so it isn't asked.
        run(rocker, "until 0 3 A + -1;", 1, 1);
        rocker.input(0, 170);
        run(rocker, "until 0 3 A + -1;", 0, 0, 0, 0, 170);
    }

    private static void agains() {
        MechanismHouse house = Check.linked(TURNER);
        run(house, "turn 0 1;again 2;turn 1 2;again 1;again 9;turn 2 1;", 0, 8,
                0, 0, 1, 0, 0, 2, 0, 0, 3, 2, 1, 2, 2, 1, 4, 5, 2, 1);
        run(house, "again 9;turn 0 1;", 0, 1, 1, 0, 4);
        run(house, "until 0 1023 C - 1/2;turn 1 -5;way 1;until 0 -1023 D + 2;again 2;turn 0 0;", 0, 80,
                0, 0, 69, 1, 1, 1023, 3, 0, 69, 0, 0, 69, 1, 1, 1018, 3, 0, 69, 0, 0, 69, 1, 1, 1013, 3, 0, 69,
                5, 0, 69);
    }

    private static void waysOfIt() {
        // In way 0 E is never NONE, in way 1 always.
        String text = "fix A 0 0;fix B 6 0;dyad C A B 5 5 ?;fix G 3 10;crank H G 1 0 1 0;dyad E C H 2 6 +;";
        run(Check.linked(text), "turn 0 1;way 1;turn 0 1;", 1, 2, 0, 0, 1);
        run(Check.linked(text), "way 1;turn 1 1;", 1, 1);
        run(Check.linked(text), "way 254;turn 0 1;", 0, 1, 1, 0, 1);
        run(Check.linked(text), "way 255;turn 0 1;", 1, 1);
        // The next run begins with way 0 again.
        MechanismHouse house = Check.linked(text);
        run(house, "way 1;", 0, 0);
        run(house, "turn 0 1;", 0, 1, 0, 0, 1);
    }

    private static void tired() {
        MechanismHouse house = Check.linked(TURNER);
        run(house, "turn 0 1000;again 3;", 2, 2000, 0, 0, 1000, 0, 0, 976);
        check.due("count(2)", house.count(2), 976);
        house.input(0, 0);
        run(house, "turn 0 1000;again 1;turn 0 0;turn 0 1;turn 0 0;", 2, 2000,
                0, 0, 1000, 0, 0, 976, 2, 0, 976);
        house.input(0, 0);
        run(house, "turn 0 1000;again 1;until 0 1 C + -1;until 0 5 C + 59;", 2, 2000,
                0, 0, 1000, 0, 0, 976, 2, 0, 976);
        house.input(0, 0);
        run(house, "turn 0 1000;again 1;", 0, 2000, 0, 0, 1000, 0, 0, 976);
    }

    private static void manyEvents() {
        MechanismHouse house = Check.linked(TURNER);
        StringBuilder text = new StringBuilder();
        for (int k = 0; k < 39; k++) {
            text.append("turn 1 ").append(k % 2).append(";");
        }
        Check.type(house, text + "again 9;");
        check.due("drive", house.drive(), 0);
        check.due("count(8)", house.count(8), 190);
        check.due("all events", house.count(9), 390);
        check.due("event(99, 0)", house.event(99, 0), 99 % 39);
        check.due("event(99, 2)", house.event(99, 2), house.event(98, 2) + 99 % 39 % 2);
        check.refuses("event(100, 0)", Check.MISSING, () -> house.event(100, 0));
        Check.type(house, text + "turn 0 1;" + " turn 9 9;");
        check.refuses("41 of them", Check.FAULT, () -> house.drive());
        check.due("fault(0)", house.fault(0), 6);
        check.due("fault(1)", house.fault(1), text.length() + 10);
        check.due("the events stay", house.count(9), 390);
    }

    private static void faults() {
        MechanismHouse house = Check.linked(TURNER);
        String[] texts = {"turn", "turn 0;", "turn 0 1", "walk 0 1;", "until 0 1 C ? 0;", "until 0 1 C -1 0;",
            "until 0 1 2 + 0;", "again;", "way +;", "turn 0 1;@", "turn 4 1;", "turn -1 1;", "turn 1/2 1;",
            "turn 0 1024;", "turn 0 -1024;", "turn 0 1/2;", "until 4 1 C + 0;", "until 0 1024 C + 0;",
            "until 0 1 E + 0;", "until 0 9999 E + 0;", "again 0;", "again 10;", "again 3/2;", "way -1;", "way 256;",
            "way 1/3;", "turn 0 1;turn 9 1;again 99;", "turn 9 1;turn 0 1"};
        int[] numbers = {1, 1, 1, 1, 1, 1, 1, 1, 1, 1, 5, 5, 5, 5, 5, 5, 5, 5, 3, 5, 5, 5, 5, 5, 5, 5, 5, 1};
        int[] places = {4, 6, 8, 0, 12, 12, 10, 5, 4, 9, 5, 5, 5, 7, 7, 7, 6, 8, 10, 8, 6, 6, 6, 4, 4, 4, 14, 17};
        for (int k = 0; k < texts.length; k++) {
            check.faulty(texts[k], numbers[k], places[k], house, () -> house.drive());
        }
        run(house, "turn 4/2 6/3;until 0 1 C + 9999/1;again 1/1;way 0/5;", 0, 6,
                0, 2, 2, 1, 0, 1, 0, 2, 4, 1, 0, 2);
        MechanismHouse none = new MechanismHouse();
        check.faulty("until 0 1 C + 0;", 3, 10, none, () -> none.drive());
    }

    private static void keeping() {
        MechanismHouse house = Check.linked(TURNER);
        run(house, "turn 0 5;", 0, 5, 0, 0, 5);
        check.faulty("turn 0 5;turn 0 5000;", 5, 16, house, () -> house.drive());
        check.due("count(2) stays", house.count(2), 5);
        check.due("count(8) stays", house.count(8), 5);
        check.due("count(9) stays", house.count(9), 1);
        check.due("event stays", house.event(0, 2), 5);
    }
}
