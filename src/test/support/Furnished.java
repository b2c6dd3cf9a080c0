/** A house with something of everything in it, and all that its calls tell of it. */
final class Furnished {
    static final String LINKAGE = "fix A 0 0;fix B 4 0;crank C A 3 0 1 0;dyad D C B 2 2 ?;body E C D 1/2 1/3;"
            + "slide F D 9 A B ?;";

    interface Ask {
        long answer();
    }

    private final MechanismHouse house;
    private final StringBuilder told = new StringBuilder();

    private Furnished(MechanismHouse house) {
        this.house = house;
    }

    static MechanismHouse house() {
        MechanismHouse house = Check.linked(LINKAGE);
        house.input(0, 60);
        house.input(1, 1023);
        house.input(2, 2);
        house.input(3, 3);
        house.load(2, 5, -7);
        house.load(4, 1, 1000);
        house.mass(0, 3);
        house.mass(3, 1000);
        house.gear(20, 0);
        house.gear(40, 1);
        house.gear(17, 1);
        house.gear(60, 2);
        house.mesh(0, 1, false, -1);
        house.mesh(2, 3, true, 3);
        house.shaft(0, 2, 3, 7);
        house.shaft(3, 1, 0, 0);
        house.trains(3, 2, 4, 6);
        Check.type(house, "rise 90 4 2;dwell 90;fall 90 4 3;dwell 90;");
        house.cam();
        int[] corners = {0, 0, 0, 0, 4, 0, 0, 4, 4, 0, 0, 4, 7, 9, 9, 7, 12, 9, 7, 9, 12, 3, 1, 1, 3, 2, 2};
        for (int k = 0; k < corners.length; k += 3) {
            house.corner(corners[k], corners[k + 1], corners[k + 2]);
        }
        house.kinds(6, 9);
        Check.type(house, "turn 0 5;turn 1 -2;until 0 9 C + 9;");
        house.drive();
        Check.type(house, "fix Q 7 8;");
        return house;
    }

    /** All that is there: what the FAULT was only if it is asked for. It takes INPUT as a LINKAGE at the last. */
    static String state(MechanismHouse house, boolean withFault) {
        Furnished all = new Furnished(house);
        if (withFault) {
            all.tell("fault(0)", () -> house.fault(0));
            all.tell("fault(1)", () -> house.fault(1));
        }
        for (int what = 0; what <= 12; what++) {
            final int asked = what;
            all.tell("count(" + what + ")", () -> house.count(asked));
        }
        all.tellOfLinkage();
        all.tellOfMotion();
        all.tellOfGears();
        all.tellOfCam();
        all.tellOfPlates();
        all.tellOfLists();
        all.tellOfInput();
        return all.told.toString();
    }

    private void tell(String call, Ask ask) {
        told.append(call).append(" = ");
        try {
            told.append(ask.answer());
        } catch (RuntimeException e) {
            told.append(e.getClass().getSimpleName());
        }
        told.append('\n');
    }

    private void tellOfLinkage() {
        tell("ways()", () -> house.ways());
        for (int k = 0; k < 48; k++) {
            final int w = k / 24 * 3;
            final int p = k / 4 % 6;
            final int axis = k / 2 % 2;
            final int side = k % 2;
            tell("at(" + w + ", " + p + ", " + axis + ", " + side + ")", () -> house.at(w, p, axis, side));
        }
        for (int k = 0; k < 4; k++) {
            final int j = k;
            tell("way(" + j + ", 0)", () -> house.way(j, 0));
            tell("way(" + j + ", 1)", () -> house.way(j, 1));
        }
    }

    private void tellOfMotion() {
        for (int k = 0; k < 4; k++) {
            final int axis = k / 2;
            final int side = k % 2;
            tell("speed axis " + axis + " side " + side, () -> house.speed(0, 0, 4, axis, side));
            tell("middle axis " + axis + " side " + side, () -> house.middle(0, axis, side));
            tell("moment side " + side, () -> house.moment(axis, 0, side));
        }
    }

    private void tellOfGears() {
        tell("solved()", () -> house.solved());
        for (int k = 0; k < 24; k++) {
            final int s = k / 2;
            final int what = k % 2;
            tell("turns(" + s + ", " + what + ")", () -> house.turns(s, what));
        }
        tell("interference(0, 1)", () -> house.interference(0, 1, false));
        tell("interference(2, 3)", () -> house.interference(2, 3, true));
    }

    private void tellOfCam() {
        int[] angles = {0, 45, 135, 200, 359};
        for (int k = 0; k < angles.length; k++) {
            final int angle = angles[k];
            tell("lift(" + angle + ", 1, 0)", () -> house.lift(angle, 1, 0));
            tell("lift(" + angle + ", 1, 1)", () -> house.lift(angle, 1, 1));
        }
        for (int k = 0; k < 4; k++) {
            final int what = k;
            tell("camAbout(" + what + ")", () -> house.camAbout(what));
        }
    }

    private void tellOfPlates() {
        int[] plates = {0, 3, 7};
        for (int k = 0; k < 27; k++) {
            final int p = plates[k / 9];
            final int what = k % 9;
            tell("plate(" + p + ", " + what + ")", () -> house.plate(p, what));
        }
        tell("inside(0, 1, 1)", () -> house.inside(0, 1, 1));
        tell("distance(0, 7, 0)", () -> house.distance(0, 7, 0));
    }

    private void tellOfLists() {
        for (int k = 0; k < 12; k++) {
            final int row = k / 4;
            final int what = k % 4;
            tell("train(" + row + ", " + what + ")", () -> house.train(row, what));
        }
        for (int k = 0; k < 3; k++) {
            final int row = k;
            tell("kind(" + row + ")", () -> house.kind(row));
            tell("event(" + row + ", 0)", () -> house.event(row, 0));
            tell("event(" + row + ", 1)", () -> house.event(row, 1));
            tell("event(" + row + ", 2)", () -> house.event(row, 2));
        }
    }

    private void tellOfInput() {
        tell("point()", () -> house.point());
        tell("linkage()", () -> house.linkage());
        tell("fault(1) of INPUT", () -> house.fault(1));
        tell("at of INPUT", () -> house.at(0, 0, 1, 1));
    }
}
