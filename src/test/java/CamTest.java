/** Promises 30 to 32: cam, lift, camAbout. */
public final class CamTest {
    private static final Check check = new Check();
    private static MechanismHouse house = new MechanismHouse();

    public static void main(String[] args) {
        laws();
        edges();
        about();
        faults();
        sums();
        keeping();
        tooLarge();
        wrong();
        check.close();
    }

    private static void cam(String text, int statements) {
        house = new MechanismHouse();
        Check.type(house, text);
        check.due("cam of " + text, house.cam(), statements);
        check.due("fault(0) of " + text, house.fault(0), 0);
        check.due("camAbout(3) of " + text, house.camAbout(3), statements);
        check.due("count(10)", house.count(10), 0);
    }

    private static void lift(int p, int q, long wantP, long wantQ) {
        check.due("lift(" + p + ", " + q + ", 0)", house.lift(p, q, 0), wantP);
        check.due("lift(" + p + ", " + q + ", 1)", house.lift(p, q, 1), wantQ);
    }

    private static void fault(String text, int number, int place) {
        check.faulty(text, number, place, house, () -> house.cam());
    }

    private static void laws() {
        cam("rise 90 4 2;dwell 90;fall 90 4 3;dwell 90;", 4);
        lift(0, 1, 0, 1);
        lift(45, 2, 1, 2);
        lift(45, 1, 2, 1);
        lift(135, 2, 7, 2);
        lift(90, 1, 4, 1);
        lift(359, 2, 4, 1);
        lift(405, 2, 459, 128);
        lift(225, 1, 2, 1);
        lift(270, 1, 0, 1);
        lift(359999, 1000, 0, 1);
        cam("fall 90 1/3 4;rise 90 2/6 1;dwell 180;", 3);
        lift(45, 2, -289, 3 * 4096);
        lift(90, 1, -1, 3);
        lift(135, 1, -1, 6);
        lift(180, 1, 0, 1);
        cam("rise 180 45 1;rise 90 1/2 3;fall 90 91/2 4;", 3);
        lift(179, 1, 179, 4);
        lift(180, 1, 45, 1);
        lift(225, 1, 181, 4);
        lift(315, 1, 91, 4);
        lift(900, 5, 45, 1);
    }

    private static void edges() {
        cam("dwell 360;", 1);
        lift(0, 1000, 0, 1);
        lift(359, 1, 0, 1);
        cam(" rise 1 1 1 ;\nfall 359 1 1;", 2);
        lift(1, 2, 1, 2);
        lift(1, 1, 1, 1);
        StringBuilder many = new StringBuilder();
        for (int k = 0; k < 30; k++) {
            many.append("dwell 12;");
        }
        cam(many.toString(), 30);
        fault(many + "dwell 1;", 6, many.length());
        fault(many + " rise 0 0 0;", 6, many.length() + 1);
        fault(many.toString().replace("12", "13") + "fall 361 1 1;", 6, many.length());
    }

    private static void about(String text, long smooth, long p, long q) {
        cam(text, text.split(";").length);
        check.due("SMOOTH of " + text, house.camAbout(0), smooth);
        check.due("STEEPEST's p of " + text, house.camAbout(1), p);
        check.due("STEEPEST's q of " + text, house.camAbout(2), q);
    }

    private static void about() {
        about("dwell 360;", 2, 0, 1);
        about("rise 180 10 1;fall 180 10 1;", 0, 1, 18);
        about("rise 90 4 2;dwell 90;fall 90 4 3;dwell 90;", 1, 4, 45);
        about("rise 180 4 3;fall 180 4 4;", 2, 7, 144);
        about("rise 180 4 3;fall 180 4 3;", 2, 1, 24);
        about("rise 100 4 3;fall 260 4 1;", 0, 3, 40);
        about("rise 180 1 2;fall 180 1 2;", 1, 1, 90);
        about("rise 90 1 1;rise 90 1 1;fall 180 2 4;", 0, 7, 288);
        about("dwell 100;dwell 260;", 2, 0, 1);
    }

    private static void faults() {
        fault("", 7, 0);
        fault("dwell", 1, 5);
        fault("dwell 360", 1, 9);
        fault("dwell 360 1;", 1, 10);
        fault("rise 360 1;", 1, 10);
        fault("fix A 0 0;", 1, 0);
        fault("dwell A;", 1, 6);
        fault("dwell 360;?", 1, 10);
        fault("dwell 0;", 5, 6);
        fault("dwell 361;", 5, 6);
        fault("dwell 1/2;", 5, 6);
        fault("dwell 1;rise 0 1 1;", 5, 13);
        fault("rise 180 0 1;fall 180 1 1;", 5, 9);
        fault("rise 180 -1 1;fall 180 1 1;", 5, 9);
        fault("rise 180 61 1;fall 180 1 1;", 5, 9);
        fault("rise 180 1 0;fall 180 1 1;", 5, 11);
        fault("rise 180 1 5;fall 180 1 1;", 5, 11);
        fault("rise 180 1 3/2;fall 180 1 1;", 5, 11);
        fault("rise 180 1 5;fall 180 1 1", 1, 25);
        cam("rise 360/2 1 2/2;fall 180 1 1;", 2);
    }

    private static void sums() {
        fault("dwell 359; ", 7, 11);
        fault("dwell 360;dwell 1;", 7, 18);
        fault("rise 180 1 1;fall 179 2 1;", 7, 26);
        fault("rise 180 1 1;fall 180 2 1;", 8, 26);
        fault("rise 180 1 1;dwell 180;", 8, 23);
        fault("rise 360 1 1;", 8, 13);
        // Primes below 10,000: the sum of five of their parts has a denominator above 10^15.
        String ups = "rise 30 1/9973 1;rise 30 1/9967 1;rise 30 1/9949 1;rise 30 1/9941 1;";
        String downs = "fall 30 1/9941 1;fall 30 1/9949 1;fall 30 1/9967 1;fall 30 1/9973 1;";
        fault(ups + downs + "dwell 120;", 8, ups.length() + downs.length() + 10);
        ups = "rise 30 1/9973 1;rise 30 1/9967 1;rise 30 1/9949 1;";
        downs = "fall 30 1/9949 1;fall 30 1/9967 1;fall 30 1/9973 1;";
        cam(ups + downs + "dwell 180;", 7);
        lift(90, 1, 9967L * 9949 + 9973L * 9949 + 9973L * 9967, 9973L * 9967 * 9949);
        // No product is above 10^15 here, but a sum of two is.
        ups = "rise 10 9972/9973 1;rise 10 9966/9967 1;rise 10 9948/9949 1;";
        downs = "fall 10 9948/9949 1;fall 10 9966/9967 1;fall 10 9972/9973 1;dwell 280;";
        fault(ups + "rise 10 527/211 1;fall 10 527/211 1;" + downs, 8, 166);
        cam(ups + "rise 10 372/211 1;fall 10 372/211 1;" + downs, 9);
    }

    private static void keeping() {
        cam("rise 180 10 1;fall 180 10 1;", 2);
        fault("dwell 1;", 7, 8);
        lift(90, 1, 5, 1);
        fault("dwell 360;dwell 0;", 5, 16);
        check.due("camAbout(3) stays", house.camAbout(3), 2);
    }

    private static void tooLarge() {
        cam("rise 180 1/97 4;fall 180 1/97 1;", 2);
        check.refuses("a seventh power", Check.REFUSED, () -> house.lift(1, 997, 0));
        lift(180 * 997 + 1, 997, 180 * 997 - 1, 97L * 180 * 997);
        check.refuses("bad ahead of REFUSED", Check.BAD, () -> house.lift(1, 997, 2));
        // 10^15 itself is not above 10^15.
        cam("rise 1 1/2 3;fall 359 1/2 1;", 2);
        lift(1, 1000, 4992503, 1000000000000000L);
        cam("rise 1 1/3 3;fall 359 1/3 1;", 2);
        check.refuses("more than that", Check.REFUSED, () -> house.lift(1, 1000, 0));
    }

    private static void wrong() {
        check.refuses("lift q 0", Check.BAD, () -> house.lift(0, 0, 0));
        check.refuses("lift q 1001", Check.BAD, () -> house.lift(0, 1001, 0));
        check.refuses("lift below 0", Check.BAD, () -> house.lift(-1, 1, 0));
        check.refuses("lift at 360", Check.BAD, () -> house.lift(360, 1, 0));
        check.refuses("lift at 720 / 2", Check.BAD, () -> house.lift(720, 2, 0));
        check.refuses("lift what -1", Check.BAD, () -> house.lift(0, 1, -1));
        check.refuses("camAbout(4)", Check.BAD, () -> house.camAbout(4));
        check.refuses("camAbout(-1)", Check.BAD, () -> house.camAbout(-1));
        MechanismHouse none = new MechanismHouse();
        check.refuses("lift of none", Check.MISSING, () -> none.lift(0, 1, 0));
        check.refuses("bad ahead of missing", Check.BAD, () -> none.lift(360, 1, 0));
        check.refuses("camAbout of none", Check.MISSING, () -> none.camAbout(0));
        check.refuses("bad ahead of missing", Check.BAD, () -> none.camAbout(4));
        Check.type(none, "dwell 1;");
        check.refuses("a FAULT makes no CAM", Check.FAULT, () -> none.cam());
        check.refuses("still none", Check.MISSING, () -> none.camAbout(3));
    }
}
