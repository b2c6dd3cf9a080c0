/**
 * "A call that throws changes nothing else": each call of the face, with each of its exceptions and each of their
 * causes. What a house tells behind it is what a twin tells that was never asked.
 */
public final class NothingElseTest {
    private static final Check check = new Check();
    // A stretched dyad: SURE, but with an OPEN speed; G stands above 2^31.
    private static final String STRETCHED = "fix A 0 0;fix B 8 0;dyad C A B 4 4 +;crank D C 1 0 1 0;";
    private static final String OPEN = "fix A 0 0;fix B 60 0;body C A B 60 0;body G A C 60 0;";

    interface Deed {
        void run(MechanismHouse house);
    }

    private static Deed ahead = house -> { };

    public static void main(String[] args) {
        input();
        faultsOfLinkages();
        faultsOfCams();
        faultsOfDrives();
        ways();
        motion();
        whereNoWayIs();
        speeds();
        openOnes();
        loads();
        gears();
        fullGears();
        unsolved();
        trains();
        cams();
        plates();
        kinds();
        events();
        newObject();
        check.close();
    }

    /** A call that throws, in a house furnished and prepared, and the twin without it. */
    private static void nothing(String call, Class<? extends RuntimeException> want, Deed deed) {
        MechanismHouse house = Furnished.house();
        ahead.run(house);
        check.refuses(call, want, () -> deed.run(house));
        MechanismHouse twin = Furnished.house();
        ahead.run(twin);
        same(call, Furnished.state(house, true), Furnished.state(twin, true));
    }

    /** A FAULT: INPUT is empty behind it, and fault tells of it; all else is as it was. */
    private static void fault(String text, int number, Deed read) {
        MechanismHouse house = Furnished.house();
        Check.type(house, text);
        check.refuses("reading " + text, Check.FAULT, () -> read.run(house));
        check.due("fault(0) of " + text, house.fault(0), number);
        MechanismHouse twin = Furnished.house();
        twin.end(0);
        same(text, Furnished.state(house, false), Furnished.state(twin, false));
    }

    private static void same(String call, String got, String want) {
        String[] gots = got.split("\n");
        String[] wants = want.split("\n");
        check.due("lines told behind " + call, gots.length, wants.length);
        for (int k = 0; k < gots.length && k < wants.length; k++) {
            if (!gots[k].equals(wants[k])) {
                check.due("behind " + call + ": " + gots[k] + " in place of " + wants[k], 1, 0);
            }
        }
    }

    private static void input() {
        nothing("end(-1)", Check.BAD, house -> house.end(-1));
        nothing("end(11)", Check.BAD, house -> house.end(11));
        nothing("input i", Check.BAD, house -> house.input(4, 9));
        nothing("input i", Check.BAD, house -> house.input(-1, 9));
        nothing("input k", Check.BAD, house -> house.input(0, 1024));
        nothing("input k", Check.BAD, house -> house.input(0, -1));
        ahead = house -> {
            StringBuilder text = new StringBuilder("fix Q 7 9;");
            while (text.length() < 3981) {
                text.append(' ');
            }
            Check.type(house, text.toString());
        };
        nothing("feed", Check.FULL, house -> house.feed(0x66697820, 0, 0, 0, 0));
        ahead = house -> { };
    }

    private static void faultsOfLinkages() {
        StringBuilder many = new StringBuilder();
        for (int k = 0; k < 41; k++) {
            many.append("fix P").append((char) ('a' + k / 26)).append((char) ('a' + k % 26)).append(" 1 1;");
        }
        StringBuilder marks = new StringBuilder("fix A 0 0;fix B 1 0;");
        for (int k = 0; k < 9; k++) {
            marks.append("dyad M").append((char) ('a' + k)).append(" A B 1 1 ?;");
        }
        fault("fix A 9 9;fix B 9 9;fix", 1, house -> house.linkage());
        fault("fix A 9 9;fix A 9 9;", 2, house -> house.linkage());
        fault("fix A 9 9;crank B Z 1 0 1 0;", 3, house -> house.linkage());
        fault("fix A 9 9;crank B C 1 0 1 0;crank C B 1 0 1 0;", 4, house -> house.linkage());
        fault("fix A 9 9;fix B 61 0;", 5, house -> house.linkage());
        fault(many.toString(), 6, house -> house.linkage());
        fault(marks.toString(), 6, house -> house.linkage());
    }

    private static void faultsOfCams() {
        StringBuilder many = new StringBuilder();
        for (int k = 0; k < 31; k++) {
            many.append("dwell 9;");
        }
        fault("rise 180 9 1;fall", 1, house -> house.cam());
        fault("rise 180 9 1;fall 180 9 5;", 5, house -> house.cam());
        fault(many.toString(), 6, house -> house.cam());
        fault("rise 180 9 1;fall 179 9 1;", 7, house -> house.cam());
        fault("rise 180 9 1;fall 180 8 1;", 8, house -> house.cam());
    }

    private static void faultsOfDrives() {
        StringBuilder many = new StringBuilder();
        for (int k = 0; k < 41; k++) {
            many.append("turn 0 1;");
        }
        fault("turn 0 1;turn", 1, house -> house.drive());
        fault("turn 0 1;until 0 1 Z + 0;", 3, house -> house.drive());
        fault("turn 0 1;turn 0 1024;", 5, house -> house.drive());
        fault(many.toString(), 6, house -> house.drive());
    }

    private static void ways() {
        nothing("way what", Check.BAD, house -> house.way(0, 2));
        nothing("way j", Check.MISSING, house -> house.way(4, 0));
        nothing("at w", Check.BAD, house -> house.at(256, 0, 0, 0));
        nothing("at axis", Check.BAD, house -> house.at(0, 0, 2, 0));
        nothing("at side", Check.BAD, house -> house.at(0, 0, 0, 2));
        nothing("at p", Check.MISSING, house -> house.at(3, 6, 0, 0));
    }

    private static void motion() {
        nothing("step w", Check.BAD, house -> house.step(256, 0, 1));
        nothing("step i", Check.BAD, house -> house.step(0, 4, 1));
        nothing("step n", Check.BAD, house -> house.step(0, 0, 1024));
        nothing("range w", Check.BAD, house -> house.range(256, 0, 0));
        nothing("range i", Check.BAD, house -> house.range(0, 4, 0));
        nothing("range what", Check.BAD, house -> house.range(0, 0, 3));
        nothing("spread w", Check.BAD, house -> house.spread(-1, 0, 0, 0, 0));
        nothing("spread i", Check.BAD, house -> house.spread(0, -1, 0, 0, 0));
        nothing("spread axis", Check.BAD, house -> house.spread(0, 0, 0, 2, 0));
        nothing("spread side", Check.BAD, house -> house.spread(0, 0, 0, 0, 2));
        nothing("spread p", Check.MISSING, house -> house.spread(1, 0, 6, 0, 0));
        nothing("least w", Check.BAD, house -> house.least(256, 0, 0, 0, 0));
        nothing("least i", Check.BAD, house -> house.least(0, 4, 0, 0, 0));
        nothing("least side", Check.BAD, house -> house.least(0, 0, 0, 0, 2));
        nothing("least p", Check.MISSING, house -> house.least(1, 0, 6, 0, 0));
        nothing("least q", Check.MISSING, house -> house.least(1, 0, 0, 6, 0));
    }

    private static void whereNoWayIs() {
        ahead = house -> house.input(0, 500);
        nothing("way", Check.MISSING, house -> house.way(0, 0));
        nothing("at", Check.MISSING, house -> house.at(1, 0, 0, 0));
        nothing("step", Check.REFUSED, house -> house.step(2, 0, 1));
        nothing("step", Check.REFUSED, house -> house.step(0, 1, -1));
        nothing("spread, no place", Check.MISSING, house -> house.spread(1, 1, 0, 0, 0));
        nothing("least, no place", Check.MISSING, house -> house.least(1, 2, 0, 1, 0));
        nothing("speed", Check.REFUSED, house -> house.speed(0, 0, 0, 0, 0));
        nothing("pole", Check.REFUSED, house -> house.pole(3, 0, 0, 1, 0, 0));
        nothing("moment", Check.REFUSED, house -> house.moment(0, 0, 0));
        nothing("middle", Check.REFUSED, house -> house.middle(1, 0, 0));
        ahead = house -> { };
    }

    private static void speeds() {
        nothing("speed w", Check.BAD, house -> house.speed(256, 0, 0, 0, 0));
        nothing("speed i", Check.BAD, house -> house.speed(0, 4, 0, 0, 0));
        nothing("speed axis", Check.BAD, house -> house.speed(0, 0, 0, 2, 0));
        nothing("speed side", Check.BAD, house -> house.speed(0, 0, 0, 0, -1));
        nothing("speed p", Check.MISSING, house -> house.speed(0, 0, 6, 0, 0));
        nothing("pole w", Check.BAD, house -> house.pole(-1, 0, 2, 3, 0, 0));
        nothing("pole i", Check.BAD, house -> house.pole(0, -1, 2, 3, 0, 0));
        nothing("pole axis", Check.BAD, house -> house.pole(0, 0, 2, 3, -1, 0));
        nothing("pole side", Check.BAD, house -> house.pole(0, 0, 2, 3, 0, 2));
        nothing("pole p", Check.MISSING, house -> house.pole(0, 0, 6, 3, 0, 0));
        nothing("pole q", Check.MISSING, house -> house.pole(0, 0, 2, -1, 0, 0));
        nothing("pole of a fixed one", Check.MISSING, house -> house.pole(1, 0, 0, 2, 0, 0));
        nothing("moment w", Check.BAD, house -> house.moment(256, 0, 0));
        nothing("moment i", Check.BAD, house -> house.moment(0, -1, 0));
        nothing("moment side", Check.BAD, house -> house.moment(0, 0, 2));
        nothing("middle w", Check.BAD, house -> house.middle(-1, 0, 0));
        nothing("middle axis", Check.BAD, house -> house.middle(0, 2, 0));
        nothing("middle side", Check.BAD, house -> house.middle(0, 0, 2));
    }

    private static void linked(MechanismHouse house, String text) {
        Check.type(house, text);
        house.linkage();
        Check.type(house, "fix R 1 2;");
    }

    private static void openOnes() {
        ahead = house -> {
            linked(house, STRETCHED);
            house.load(3, 1, 1);
        };
        nothing("speed", Check.MISSING, house -> house.speed(0, 0, 2, 0, 0));
        nothing("pole", Check.MISSING, house -> house.pole(0, 0, 2, 3, 0, 0));
        nothing("moment", Check.MISSING, house -> house.moment(0, 0, 0));
        nothing("middle, M 0", Check.MISSING, house -> house.middle(0, 0, 0));
        ahead = house -> linked(house, OPEN);
        nothing("at", Check.MISSING, house -> house.at(0, 3, 0, 0));
        nothing("step", Check.REFUSED, house -> house.step(0, 0, 1));
        ahead = house -> {
            linked(house, "fix A 0 0;fix B 60 0;body C A B 60 0;");
            house.mass(1, 1000);
        };
        nothing("least", Check.MISSING, house -> house.least(0, 0, 0, 2, 0));
        nothing("middle", Check.MISSING, house -> house.middle(0, 0, 0));
        ahead = house -> { };
    }

    private static void loads() {
        nothing("load fx", Check.BAD, house -> house.load(2, 1001, 1));
        nothing("load fy", Check.BAD, house -> house.load(2, 1, -1001));
        nothing("load p", Check.MISSING, house -> house.load(6, 1, 1));
        nothing("load p", Check.MISSING, house -> house.load(-1, 1, 1));
        nothing("mass m", Check.BAD, house -> house.mass(3, 1001));
        nothing("mass m", Check.BAD, house -> house.mass(3, -1));
        nothing("mass p", Check.MISSING, house -> house.mass(6, 1));
    }

    private static void gears() {
        nothing("gear teeth", Check.BAD, house -> house.gear(3, 0));
        nothing("gear shaft", Check.BAD, house -> house.gear(4, 12));
        nothing("mesh arm", Check.BAD, house -> house.mesh(0, 3, false, 12));
        nothing("mesh a", Check.MISSING, house -> house.mesh(4, 0, false, -1));
        nothing("mesh b", Check.MISSING, house -> house.mesh(0, 4, false, -1));
        nothing("mesh on one SHAFT", Check.REFUSED, house -> house.mesh(1, 2, false, -1));
        nothing("shaft s", Check.BAD, house -> house.shaft(12, 1, 0, 0));
        nothing("shaft how", Check.BAD, house -> house.shaft(0, 3, 1, 1));
        nothing("shaft p", Check.BAD, house -> house.shaft(0, 2, 1001, 1));
        nothing("shaft q", Check.BAD, house -> house.shaft(0, 2, 1, 0));
        nothing("turns s", Check.BAD, house -> house.turns(12, 0));
        nothing("turns what", Check.BAD, house -> house.turns(0, 2));
        nothing("turns, not known", Check.MISSING, house -> house.turns(7, 0));
        nothing("interference a", Check.MISSING, house -> house.interference(4, 0, false));
        nothing("interference b", Check.MISSING, house -> house.interference(0, 4, true));
    }

    private static void fullGears() {
        ahead = house -> {
            for (int k = 4; k < 24; k++) {
                house.gear(50, 4 + k % 2);
            }
            for (int k = 2; k < 20; k++) {
                house.mesh(4, 5, false, -1);
            }
        };
        nothing("gear", Check.FULL, house -> house.gear(4, 0));
        nothing("mesh", Check.FULL, house -> house.mesh(0, 3, false, -1));
        ahead = house -> { };
    }

    private static void unsolved() {
        ahead = house -> house.shaft(1, 1, 0, 0);
        nothing("turns, nothing fits", Check.REFUSED, house -> house.turns(0, 0));
        ahead = house -> {
            int[] teeth = {1384, 1524, 1476, 1036, 1972, 644};
            for (int k = 0; k < teeth.length; k++) {
                house.gear(teeth[k], 4 + k);
                house.gear(4, 5 + k);
                house.mesh(4 + 2 * k, 5 + 2 * k, false, -1);
            }
            house.shaft(4, 2, 1, 1);
        };
        nothing("turns, TOO LARGE", Check.REFUSED, house -> house.turns(0, 0));
        ahead = house -> { };
    }

    private static void trains() {
        nothing("trains p", Check.BAD, house -> house.trains(0, 1, 4, 6));
        nothing("trains q", Check.BAD, house -> house.trains(1, 10001, 4, 6));
        nothing("trains low", Check.BAD, house -> house.trains(1, 1, 3, 6));
        nothing("trains high", Check.BAD, house -> house.trains(1, 1, 4, 121));
        nothing("trains low above high", Check.BAD, house -> house.trains(1, 1, 6, 5));
        nothing("train what", Check.BAD, house -> house.train(0, 4));
        nothing("train k", Check.MISSING, house -> house.train(3, 0));
    }

    private static void cams() {
        nothing("lift p", Check.BAD, house -> house.lift(360, 1, 0));
        nothing("lift q", Check.BAD, house -> house.lift(0, 1001, 0));
        nothing("lift what", Check.BAD, house -> house.lift(0, 1, 2));
        nothing("lift, TOO LARGE", Check.REFUSED, house -> house.lift(180 * 997 + 1, 997, 0));
        nothing("camAbout", Check.BAD, house -> house.camAbout(4));
    }

    private static void plates() {
        nothing("corner p", Check.BAD, house -> house.corner(8, 0, 0));
        nothing("corner x", Check.BAD, house -> house.corner(3, 1001, 0));
        nothing("corner y", Check.BAD, house -> house.corner(0, 0, -1001));
        nothing("empty", Check.BAD, house -> house.empty(8));
        nothing("plate p", Check.BAD, house -> house.plate(8, 0));
        nothing("plate what", Check.BAD, house -> house.plate(0, 9));
        nothing("plate of two", Check.MISSING, house -> house.plate(3, 0));
        nothing("inside p", Check.BAD, house -> house.inside(8, 0, 0));
        nothing("inside x", Check.BAD, house -> house.inside(0, 1001, 0));
        nothing("inside y", Check.BAD, house -> house.inside(0, 0, -1001));
        nothing("inside of two", Check.MISSING, house -> house.inside(3, 0, 0));
        nothing("distance p", Check.BAD, house -> house.distance(8, 0, 0));
        nothing("distance q", Check.BAD, house -> house.distance(0, -1, 0));
        nothing("distance what", Check.BAD, house -> house.distance(0, 7, 2));
        nothing("distance of two", Check.MISSING, house -> house.distance(3, 0, 0));
        nothing("distance to two", Check.MISSING, house -> house.distance(0, 3, 0));
        ahead = house -> {
            for (int k = 4; k < 24; k++) {
                house.corner(0, -k, 4);
            }
            house.corner(3, 3, 3);
        };
        nothing("corner", Check.FULL, house -> house.corner(0, 0, 0));
        nothing("plate of no area", Check.MISSING, house -> house.plate(3, 1));
        ahead = house -> { };
    }

    private static void kinds() {
        nothing("kinds n", Check.BAD, house -> house.kinds(7, 6));
        nothing("kinds j", Check.BAD, house -> house.kinds(6, 16));
        nothing("kind", Check.MISSING, house -> house.kind(2));
        nothing("kind", Check.MISSING, house -> house.kind(-1));
    }

    private static void events() {
        nothing("event what", Check.BAD, house -> house.event(0, 3));
        nothing("event k", Check.MISSING, house -> house.event(3, 0));
    }

    /** The same of a new object, where most things are missing. */
    private static void newObject() {
        Deed[] deeds = {house -> house.lift(0, 1, 0), house -> house.camAbout(0), house -> house.kind(0),
            house -> house.event(0, 0), house -> house.train(0, 0), house -> house.plate(0, 0),
            house -> house.interference(0, 0, false), house -> house.mesh(0, 0, false, -1),
            house -> house.at(0, 0, 0, 0), house -> house.middle(0, 0, 0), house -> house.turns(0, 0),
            house -> house.load(0, 1, 1), house -> house.mass(0, 1), house -> house.way(1, 0)};
        String want = Furnished.state(new MechanismHouse(), true);
        for (int k = 0; k < deeds.length; k++) {
            final Deed deed = deeds[k];
            MechanismHouse house = new MechanismHouse();
            check.refuses("deed " + k + " of a new object", Check.MISSING, () -> deed.run(house));
            same("deed " + k + " of a new object", Furnished.state(house, true), want);
        }
    }
}
