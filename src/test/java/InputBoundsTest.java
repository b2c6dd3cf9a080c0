/**
 * The boundary sentences under "What it is", GENERAL, and promises 1 to 4 and 42: a new object, feed, end, fault,
 * count. Above each test stands the sentence that it holds.
 */
public final class InputBoundsTest {
    private static final Check check = new Check();

    public static void main(String[] args) {
        newObject();
        calls512();
        inputOf4000();
        feedIsFull();
        feedTakesAllBytes();
        endRange();
        inputIsEmptied();
        faultOfLatest();
        faultWhat();
        orderOfSeveral();
        openBehindRefused();
        countWhat();
        countAtLimits();
        check.close();
    }

    /** "No POINTS, SHAFTS' GEARS, CAM, PLATES." */
    private static void newObject() {
        MechanismHouse house = new MechanismHouse();
        check.due("POINTS", house.count(0), 0);
        check.due("GEARS", house.count(6), 0);
        check.due("MESHES", house.count(7), 0);
        check.due("INPUT's length", house.count(10), 0);
        check.refuses("POINT 0", Check.MISSING, () -> house.spread(0, 0, 0, 0, 0));
        check.refuses("load", Check.MISSING, () -> house.load(0, 0, 0));
        check.refuses("mass", Check.MISSING, () -> house.mass(0, 0));
        check.refuses("GEAR 0", Check.MISSING, () -> house.mesh(0, 0, false, -1));
        check.refuses("CAM", Check.MISSING, () -> house.camAbout(0));
        for (int p = 0; p < 8; p++) {
            final int plate = p;
            check.refuses("PLATE " + p, Check.MISSING, () -> house.plate(plate, 0));
            check.due("PLATE " + p + " begins", house.corner(p, 0, 0), 1);
        }
        for (int s = 0; s < 12; s++) {
            final int shaft = s;
            check.refuses("SHAFT " + s + " is free", Check.MISSING, () -> house.turns(shaft, 0));
        }
        // Without POINTS there is nothing to be in doubt of: the one way is SURE, at all places.
        check.due("the one way", house.ways(), 1);
        check.due("its places", house.range(0, 0, 0), 1024);
        check.due("no moment", house.moment(0, 0, 0), 0);
        check.refuses("no masses", Check.MISSING, () -> house.middle(0, 0, 0));
    }

    /** "An object is used for at most 512 calls after it has been made": the 512th is answered like the first. */
    private static void calls512() {
        MechanismHouse house = new MechanismHouse();
        for (int k = 0; k < 102; k++) {
            // "fix A 1 0;" and ten spaces, then the same with another name.
            int name = 0x41 + k % 26;
            house.feed(0x66697820, name << 24 | 0x203120, 0x303b2020, 0x20202020, 0x20202020);
            check.due("linkage " + k, house.linkage(), 1);
            check.due("kinds " + k, house.kinds(5, 6), 3);
            check.due("trains " + k, house.trains(3, 2, 4, 6), 3);
            check.due("at " + k, house.at(0, 0, 0, 0), 65536);
        }
        check.due("call 511", house.end(0), 0);
        check.due("call 512", house.count(0), 1);
    }

    /** "INPUT: bytes gathered by feed and end, at most 4,000." All 4,000 are read. */
    private static void inputOf4000() {
        StringBuilder text = new StringBuilder();
        while (text.length() < 3990) {
            text.append(' ');
        }
        MechanismHouse whole = new MechanismHouse();
        Check.type(whole, text + "fix A 0 0;");
        check.due("length", whole.count(10), 4000);
        check.due("linkage", whole.linkage(), 1);
        Check.type(whole, text + "fix A 0 0 ");
        check.refuses("without its end", Check.FAULT, () -> whole.linkage());
        check.due("fault(0)", whole.fault(0), 1);
        check.due("fault(1)", whole.fault(1), 4000);
        MechanismHouse less = new MechanismHouse();
        Check.type(less, text + "fix A 0 0;");
        less.end(3999);
        check.refuses("one byte less", Check.FAULT, () -> less.linkage());
        check.due("fault(1)", less.fault(1), 3999);
        check.due("empty again", less.feed(0x20202020, 0x20202020, 0x20202020, 0x20202020, 0x20202020), 20);
        check.due("of spaces", less.linkage(), 0);
    }

    /** "its length. FULL." */
    private static void feedIsFull() {
        MechanismHouse house = new MechanismHouse();
        for (int k = 1; k <= 200; k++) {
            check.due("feed " + k, house.feed(0, 0, 0, 0, 0), 20 * k);
        }
        check.refuses("feed at 4000", Check.FULL, () -> house.feed(0, 0, 0, 0, 0));
        int[] lengths = {3999, 3997, 3996, 3985, 3984, 3981};
        for (int k = 0; k < lengths.length; k++) {
            house.end(lengths[k]);
            check.refuses("feed at " + lengths[k], Check.FULL, () -> house.feed(0, 0, 0, 0, 0));
            check.due("the length stays", house.count(10), lengths[k]);
        }
        house.end(3980);
        check.due("feed at 3980", house.feed(0, 0, 0, 0, 0), 4000);
    }

    /** "The four bytes of each number, the highest first, come to INPUT": 0 and 255 are bytes like others. */
    private static void feedTakesAllBytes() {
        MechanismHouse house = new MechanismHouse();
        check.due("feed", house.feed(-1, Integer.MIN_VALUE, Integer.MAX_VALUE, 0, 1), 20);
        check.refuses("linkage", Check.FAULT, () -> house.linkage());
        check.due("byte 255 is the first", house.fault(1), 0);
        house.feed(0x20202020, 0x202020ff, 0, 0, 0);
        check.refuses("linkage", Check.FAULT, () -> house.linkage());
        check.due("byte 255 is the eighth", house.fault(1), 7);
        // Each number's bytes stand behind those of the one before: "abcdefgh" is one NAME.
        house.feed(0x66697820, 0x61626364, 0x65666768, 0x20312032, 0x3b202020);
        check.due("linkage", house.linkage(), 1);
        house.feed(0x61626364, 0x65666768, 0, 0, 0);
        house.end(8);
        check.due("point", house.point(), 0);
    }

    /** "Only the first n bytes of INPUT stay: n. Bad: not 0 .. its length." */
    private static void endRange() {
        MechanismHouse house = new MechanismHouse();
        check.range("end of nothing", 0, 0, n -> house.end(n));
        house.feed(0, 0, 0, 0, 0);
        check.outside("end of 20", 0, 20, Check.BAD, n -> house.end(n));
        check.due("the length stays", house.count(10), 20);
        check.due("end(20)", house.end(20), 20);
        check.due("end(19)", house.end(19), 19);
        check.refuses("end(20) of 19", Check.BAD, () -> house.end(20));
        check.due("end(0)", house.end(0), 0);
        check.refuses("end(1) of 0", Check.BAD, () -> house.end(1));
        // What end took away doesn't come back.
        Check.type(house, "fix A 0 0;fix A 0 0;");
        house.end(10);
        check.due("the first STATEMENT alone", house.linkage(), 1);
    }

    /** "'[INPUT]' calls empty it, whatever happens." */
    private static void inputIsEmptied() {
        MechanismHouse house = new MechanismHouse();
        String[] linkages = {"", "fix A 0 0;", "fix", "fix A 0 0;fix A 0 0;", "body A A B 0 0;", "crank A A 1 0 1 0;",
            "fix A 61 0;"};
        for (int k = 0; k < linkages.length; k++) {
            Check.type(house, linkages[k]);
            quietly(() -> house.linkage());
            check.due("INPUT behind linkage of " + linkages[k], house.count(10), 0);
        }
        String[] cams = {"dwell 360;", "", "dwell", "dwell 0;", "dwell 359;", "rise 360 1 1;"};
        for (int k = 0; k < cams.length; k++) {
            Check.type(house, cams[k]);
            quietly(() -> house.cam());
            check.due("INPUT behind cam of " + cams[k], house.count(10), 0);
        }
        String[] drives = {"", "turn 0 1;", "turn", "until 0 1 B + 0;", "turn 4 0;", "turn 0 1000;again 9;"};
        for (int k = 0; k < drives.length; k++) {
            Check.type(house, drives[k]);
            quietly(() -> house.drive());
            check.due("INPUT behind drive of " + drives[k], house.count(10), 0);
        }
    }

    private static void quietly(Check.Call read) {
        try {
            read.run();
        } catch (UnsupportedOperationException e) {
            // A FAULT is as good as none here.
        }
    }

    /** "fault(0) tells which, fault(1) at which byte (both of the latest [INPUT] call; 0, 0 if it had none)." */
    private static void faultOfLatest() {
        MechanismHouse house = new MechanismHouse();
        faults(house, "a new object", 0, 0);
        check.faulty("fix A 0 0;fix A 0 0;", 2, 14, house, () -> house.linkage());
        // Calls that aren't [INPUT] ones leave it, whether they throw or not.
        house.feed(0, 0, 0, 0, 0);
        house.end(0);
        house.point();
        house.ways();
        check.refuses("a bad call", Check.BAD, () -> house.end(1));
        faults(house, "other calls", 2, 14);
        Check.type(house, "dwell 360;");
        house.cam();
        faults(house, "a good cam", 0, 0);
        check.faulty("rise 360 1 1;", 8, 13, house, () -> house.cam());
        Check.type(house, "");
        house.drive();
        faults(house, "a good drive", 0, 0);
        check.faulty("way 256;", 5, 4, house, () -> house.drive());
        Check.type(house, "");
        house.linkage();
        faults(house, "a good linkage", 0, 0);
    }

    private static void faults(MechanismHouse house, String behind, int number, int place) {
        check.due("fault(0) behind " + behind, house.fault(0), number);
        check.due("fault(1) behind " + behind, house.fault(1), place);
    }

    /** "what 0 the FAULT, 1 its place; else -1." */
    private static void faultWhat() {
        MechanismHouse house = new MechanismHouse();
        check.faulty("fix A 0 61;", 5, 8, house, () -> house.linkage());
        int[] others = {2, -1, 3, Integer.MIN_VALUE, Integer.MAX_VALUE};
        for (int k = 0; k < others.length; k++) {
            check.due("fault(" + others[k] + ")", house.fault(others[k]), -1);
        }
        check.due("fault(0)", house.fault(0), 5);
        check.due("fault(1)", house.fault(1), 8);
    }

    /** "Of several: bad, missing, REFUSED, FULL, the FAULT." */
    private static void orderOfSeveral() {
        MechanismHouse house = new MechanismHouse();
        check.refuses("bad ahead of missing: way", Check.BAD, () -> house.way(1, 2));
        check.refuses("bad ahead of missing: at", Check.BAD, () -> house.at(0, 0, 2, 0));
        check.refuses("bad ahead of missing: spread", Check.BAD, () -> house.spread(256, 0, 0, 0, 0));
        check.refuses("bad ahead of missing: least", Check.BAD, () -> house.least(0, 4, 0, 0, 0));
        check.refuses("bad ahead of missing: load", Check.BAD, () -> house.load(0, 0, 1001));
        check.refuses("bad ahead of missing: mass", Check.BAD, () -> house.mass(0, 1001));
        check.refuses("bad ahead of missing: train", Check.BAD, () -> house.train(0, 4));
        check.refuses("bad ahead of missing: lift", Check.BAD, () -> house.lift(0, 1, 2));
        check.refuses("bad ahead of missing: camAbout", Check.BAD, () -> house.camAbout(4));
        check.refuses("bad ahead of missing: plate", Check.BAD, () -> house.plate(0, 9));
        check.refuses("bad ahead of missing: inside", Check.BAD, () -> house.inside(0, 0, 1001));
        check.refuses("bad ahead of missing: distance", Check.BAD, () -> house.distance(0, 0, 2));
        check.refuses("bad ahead of missing: event", Check.BAD, () -> house.event(0, 3));
        orderWhereNoWayIs();
        orderInMesh();
    }

    private static void orderWhereNoWayIs() {
        MechanismHouse not = Check.linked("fix A 0 0;fix B 9 0;dyad C A B 4 4 +;");
        check.refuses("bad ahead of REFUSED: step", Check.BAD, () -> not.step(0, 4, 0));
        check.refuses("bad ahead of REFUSED: speed", Check.BAD, () -> not.speed(0, 0, 0, 2, 0));
        check.refuses("bad ahead of REFUSED: pole", Check.BAD, () -> not.pole(0, 0, 0, 1, 0, 2));
        check.refuses("bad ahead of REFUSED: moment", Check.BAD, () -> not.moment(0, 0, 2));
        check.refuses("bad ahead of missing: middle", Check.BAD, () -> not.middle(0, 2, 0));
        check.refuses("missing ahead of REFUSED: speed", Check.MISSING, () -> not.speed(0, 0, 3, 0, 0));
        check.refuses("missing ahead of REFUSED: pole", Check.MISSING, () -> not.pole(0, 0, 0, 3, 0, 0));
        check.refuses("missing ahead of REFUSED: middle", Check.MISSING, () -> not.middle(0, 0, 0));
    }

    private static void orderInMesh() {
        MechanismHouse house = new MechanismHouse();
        house.gear(10, 0);
        house.gear(10, 0);
        house.gear(10, 1);
        for (int k = 0; k < 20; k++) {
            house.mesh(0, 2, false, -1);
        }
        check.refuses("bad ahead of missing", Check.BAD, () -> house.mesh(3, 0, false, 12));
        check.refuses("bad ahead of REFUSED", Check.BAD, () -> house.mesh(0, 1, false, 12));
        check.refuses("bad ahead of FULL", Check.BAD, () -> house.mesh(0, 2, false, 12));
        check.refuses("missing ahead of FULL", Check.MISSING, () -> house.mesh(0, 3, false, -1));
        check.refuses("REFUSED ahead of FULL", Check.REFUSED, () -> house.mesh(0, 1, false, -1));
        check.refuses("FULL", Check.FULL, () -> house.mesh(0, 2, false, -1));
    }

    /** "but that something is OPEN, or a w isn't known, is asked behind REFUSED." */
    private static void openBehindRefused() {
        // C has no speed that is told, and D is in doubt or not: REFUSED is asked first.
        String stretched = "fix A 0 0;fix B 8 0;dyad C A B 4 4 +;";
        MechanismHouse sure = Check.linked(stretched);
        check.refuses("OPEN", Check.MISSING, () -> sure.speed(0, 0, 2, 0, 0));
        check.refuses("OPEN", Check.MISSING, () -> sure.pole(0, 0, 2, 2, 0, 0));
        sure.load(2, 1, 1);
        check.refuses("OPEN", Check.MISSING, () -> sure.moment(0, 0, 0));
        sure.mass(0, 1);
        check.good("middle", () -> sure.middle(0, 0, 0));
        MechanismHouse doubtful = Check.linked(stretched + "fix E 3 0;dyad D A E 1 2 +;");
        doubtful.load(2, 1, 1);
        doubtful.mass(0, 1);
        check.refuses("REFUSED", Check.REFUSED, () -> doubtful.speed(0, 0, 2, 0, 0));
        check.refuses("REFUSED", Check.REFUSED, () -> doubtful.pole(0, 0, 2, 2, 0, 0));
        check.refuses("REFUSED", Check.REFUSED, () -> doubtful.moment(0, 0, 0));
        check.refuses("REFUSED", Check.REFUSED, () -> doubtful.middle(0, 0, 0));
        MechanismHouse train = new MechanismHouse();
        check.refuses("a w isn't known", Check.MISSING, () -> train.turns(11, 0));
        train.gear(10, 0);
        train.gear(20, 1);
        train.mesh(0, 1, false, -1);
        train.shaft(0, 2, 1, 1);
        train.shaft(1, 1, 0, 0);
        check.refuses("REFUSED", Check.REFUSED, () -> train.turns(11, 0));
        check.refuses("bad first", Check.BAD, () -> train.turns(12, 0));
    }

    /** "0 POINTS, .. 12 KINDS listed; else -1." */
    private static void countWhat() {
        MechanismHouse house = new MechanismHouse();
        for (int what = 0; what <= 12; what++) {
            check.due("count(" + what + ")", house.count(what), 0);
        }
        int[] others = {-1, 13, 14, Integer.MIN_VALUE, Integer.MAX_VALUE};
        for (int k = 0; k < others.length; k++) {
            check.due("count(" + others[k] + ")", house.count(others[k]), -1);
        }
    }

    /** Each of count's numbers where its limit is met: 40, 8, 1023, 24, 20, 2000, more events than kept, 4000, 300. */
    private static void countAtLimits() {
        StringBuilder text = new StringBuilder("fix A 0 0;fix B 1 0;");
        for (int k = 0; k < 38; k++) {
            text.append("dyad C").append((char) ('A' + k / 26)).append((char) ('A' + k % 26));
            text.append(k < 8 ? " A B 1 1 ?;" : " A B 1 1 +;");
        }
        MechanismHouse house = Check.linked(text.toString());
        check.due("count(0)", house.count(0), 40);
        check.due("count(1)", house.count(1), 8);
        for (int i = 0; i < 4; i++) {
            house.input(i, 1023);
            check.due("count(" + (2 + i) + ")", house.count(2 + i), 1023);
        }
        for (int k = 0; k < 24; k++) {
            house.gear(4, k % 2);
        }
        for (int k = 0; k < 20; k++) {
            house.mesh(0, 1, false, -1);
        }
        check.due("count(6)", house.count(6), 24);
        check.due("count(7)", house.count(7), 20);
        Check.type(house, "turn 0 1;again 9;turn 0 1;again 9;turn 0 1;again 9;turn 0 1;again 9;turn 0 1;again 9;"
                + "turn 0 1;again 9;turn 0 1;again 9;turn 0 1;again 9;turn 0 1;again 9;turn 0 1;again 9;turn 0 0;"
                + "turn 0 1000;again 9;");
        check.due("drive", house.drive(), 2);
        check.due("count(8)", house.count(8), 2000);
        // A hundred, then "turn 0 0" and "turn 0 1000", then "turn 0 0" once more.
        check.due("count(9) tells all", house.count(9), 103);
        check.refuses("of which 100 are kept", Check.MISSING, () -> house.event(100, 0));
        house.trains(1, 1, 4, 120);
        check.due("count(11)", house.count(11), 300);
        house.kinds(6, 8);
        check.due("count(12)", house.count(12), 6);
        for (int k = 0; k < 200; k++) {
            house.feed(0, 0, 0, 0, 0);
        }
        check.due("count(10)", house.count(10), 4000);
    }
}
