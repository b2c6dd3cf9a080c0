/** Promises 1 to 4 and 42: a new object, feed, end, fault, count. */
public final class InputTest {
    private static final Check check = new Check();

    public static void main(String[] args) {
        newObject();
        feeding();
        ending();
        faults();
        counting();
        check.close();
    }

    private static void newObject() {
        MechanismHouse house = new MechanismHouse();
        for (int what = 0; what <= 12; what++) {
            check.due("new count(" + what + ")", house.count(what), 0);
        }
        check.due("new ways()", house.ways(), 1);
        check.due("new way(0, 0)", house.way(0, 0), 0);
        check.due("new way(0, 1)", house.way(0, 1), 1);
        check.due("new point()", house.point(), -1);
        check.due("new fault(0)", house.fault(0), 0);
        check.due("new fault(1)", house.fault(1), 0);
        check.due("new solved()", house.solved(), 1);
        check.refuses("new at", Check.MISSING, () -> house.at(0, 0, 0, 0));
        check.refuses("new turns", Check.MISSING, () -> house.turns(0, 0));
        check.refuses("new interference", Check.MISSING, () -> house.interference(0, 0, false));
        check.refuses("new train", Check.MISSING, () -> house.train(0, 0));
        check.refuses("new lift", Check.MISSING, () -> house.lift(0, 1, 0));
        check.refuses("new camAbout", Check.MISSING, () -> house.camAbout(3));
        check.refuses("new plate", Check.MISSING, () -> house.plate(7, 0));
        check.refuses("new kind", Check.MISSING, () -> house.kind(0));
        check.refuses("new event", Check.MISSING, () -> house.event(0, 0));
    }

    private static void feeding() {
        MechanismHouse house = new MechanismHouse();
        // The highest byte comes first: "fix Abcd 1 2;fix B3 4;"
        check.due("feed", house.feed(0x66697820, 0x41626364, 0x20312032, 0x3b666978, 0x20423320), 20);
        check.due("feed", house.feed(0x343b2020, 0x20202020, 0x20202020, 0x20202020, 0x20202020), 40);
        check.due("linkage()", house.linkage(), 2);
        check.due("at x of Abcd", house.at(0, 0, 0, 0), 65536);
        check.due("at y of B", house.at(0, 1, 1, 1), 4 * 65536);
        for (int k = 1; k <= 200; k++) {
            check.due("feed " + k, house.feed(-1, 0, 1, Integer.MIN_VALUE, Integer.MAX_VALUE), 20 * k);
        }
        check.refuses("the 201st feed", Check.FULL, () -> house.feed(0, 0, 0, 0, 0));
        check.due("count(10)", house.count(10), 4000);
        house.end(3981);
        check.refuses("feed at 3981", Check.FULL, () -> house.feed(0, 0, 0, 0, 0));
        house.end(3980);
        check.due("feed at 3980", house.feed(0, 0, 0, 0, 0), 4000);
    }

    private static void ending() {
        MechanismHouse house = new MechanismHouse();
        check.due("end(0)", house.end(0), 0);
        check.refuses("end(1) of nothing", Check.BAD, () -> house.end(1));
        house.feed(0x41424344, 0, 0, 0, 0);
        check.refuses("end(21)", Check.BAD, () -> house.end(21));
        check.refuses("end(-1)", Check.BAD, () -> house.end(-1));
        check.due("count(10)", house.count(10), 20);
        check.due("end(20)", house.end(20), 20);
        check.due("end(7)", house.end(7), 7);
        check.due("count(10)", house.count(10), 7);
        check.refuses("end(8)", Check.BAD, () -> house.end(8));
    }

    private static void faults() {
        MechanismHouse house = new MechanismHouse();
        check.due("fault(2)", house.fault(2), -1);
        check.due("fault(-1)", house.fault(-1), -1);
        check.faulty("fix A 0 0", 1, 9, house, () -> house.linkage());
        check.due("fault(2)", house.fault(2), -1);
        Check.type(house, "A");
        house.point();
        check.due("fault(0) behind point", house.fault(0), 1);
        check.faulty("dwell 359;", 7, 10, house, () -> house.cam());
        Check.type(house, "fix A 0 0;");
        house.linkage();
        check.due("fault(0) behind a good one", house.fault(0), 0);
        check.due("fault(1) behind a good one", house.fault(1), 0);
        check.faulty("turn 0 0;until 0 1 B + 0;", 3, 19, house, () -> house.drive());
        Check.type(house, "turn 0 0;");
        house.drive();
        check.due("fault(0) behind a drive", house.fault(0), 0);
    }

    private static void counting() {
        MechanismHouse house = Check.linked("fix A 0 0;fix B 3 0;dyad C A B 2 2 ?;dyad D A B 3 3 ?;");
        house.input(0, 5);
        house.input(1, 6);
        house.input(2, 7);
        house.input(3, 1023);
        house.gear(10, 0);
        house.gear(20, 1);
        house.gear(30, 2);
        house.mesh(0, 1, false, -1);
        house.trains(1, 1, 4, 6);
        house.kinds(4, 4);
        Check.type(house, "turn 0 3;turn 1 -2;turn 2 0;");
        house.drive();
        Check.type(house, "abc");
        long[] want = {4, 2, 8, 4, 7, 1023, 3, 1, 5, 3, 3, house.trains(1, 1, 4, 6), 1};
        for (int what = 0; what < want.length; what++) {
            check.due("count(" + what + ")", house.count(what), want[what]);
        }
        check.due("count(13)", house.count(13), -1);
        check.due("count(-1)", house.count(-1), -1);
        house.trains(1, 1, 4, 120);
        check.due("count(11) of many", house.count(11), 300);
    }
}
