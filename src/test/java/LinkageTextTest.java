/** Promises 5 and 6: linkage with its grammar and FAULTS, point. */
public final class LinkageTextTest {
    private static final Check check = new Check();
    private static MechanismHouse house = new MechanismHouse();

    public static void main(String[] args) {
        good();
        house = new MechanismHouse();
        grammar();
        house = new MechanismHouse();
        tokens();
        house = new MechanismHouse();
        names();
        house = new MechanismHouse();
        numbers();
        house = new MechanismHouse();
        limits();
        house = new MechanismHouse();
        order();
        keeping();
        points();
        check.close();
    }

    private static void fault(String text, int number, int place) {
        check.faulty(text, number, place, house, () -> house.linkage());
    }

    private static void taken(String text, int points) {
        Check.type(house, text);
        check.due("linkage of " + text, house.linkage(), points);
        check.due("fault(0) of " + text, house.fault(0), 0);
        check.due("fault(1) of " + text, house.fault(1), 0);
        check.due("count(0) of " + text, house.count(0), points);
    }

    private static void good() {
        taken("", 0);
        taken(" \t\r\n", 0);
        taken("fix A 0 0;", 1);
        taken("fix fix 0 0;crank crank fix 1 0 1 0;", 2);
        taken("fix A0 0;fix B-1/2-3;", 2);
        taken("\tfix\nA\r-60 60\n;fix B 120/2 -0/7;", 2);
        taken("body C A B 1/2 0;fix A 0 0;fix B 2 0;", 3);
        taken("fix A 0 0;fix B 2 0;dyad C A B 2 2+;slide D A 1 A B-;cross E A B C D;body F A B 0 0;", 6);
        taken("fix A 0 0;crank B A 60 3 -8 1023;crank C B 1/9999 0 8 0;", 3);
        taken("fix A 0 0;crank B A 4/2 6/2 4/4 10/5;", 2);
        taken("fix Abcdefgh 0 0;fix abcdefgh 0 0;", 2);
    }

    private static void grammar() {
        fault("A", 1, 0);
        fault(";", 1, 0);
        fault("fix", 1, 3);
        fault("fix ", 1, 4);
        fault("fix A 0 0 ", 1, 10);
        fault("fix A 0;", 1, 7);
        fault("fix A 0 0 0;", 1, 10);
        fault("fix 1 0 0;", 1, 4);
        fault("fix A B 0;", 1, 6);
        fault("Fix A 0 0;", 1, 0);
        fault("fixA 0 0;", 1, 0);
        fault("fi x A 0 0;", 1, 0);
        fault("fix A 0 0;;", 1, 10);
        fault("fix A 0 0;dyad B A A 1 1 1;", 1, 25);
        fault("fix A 0 0;dyad B A A 1 1 -1;", 1, 25);
        fault("fix A 0 0;dyad B A A 1 1 ;", 1, 25);
        fault("fix A 0 0;crank B A 1 0 ?;", 1, 24);
        fault("1 A 0 0;", 1, 0);
        fault("- A 0 0;", 1, 0);
    }

    private static void tokens() {
        fault("fix A @ 0;", 1, 6);
        fault("fix @ 0 0;", 1, 4);
        fault("fix A 0 0;\u0000", 1, 10);
        fault("fix A 0 0;\u00ff", 1, 10);
        fault("fix A 0\u0000 0;", 1, 7);
        fault("fix A 1/ 2;", 1, 7);
        fault("fix A 1 /2;", 1, 8);
        fault("fix A 1/-2 0;", 1, 7);
        fault("fix A 1/0 0;", 1, 6);
        fault("fix A -1/0000 0;", 1, 6);
        fault("fix A 1/00001 0;", 1, 6);
        fault("fix A - 1 0;", 1, 6);
        fault("fix A --1 0;", 1, 6);
        fault("fix A +1 0;", 1, 6);
        fault("fix A 1.5 0;", 1, 7);
        fault("fix Abcdefghi 0 0;", 1, 12);
        // The fifth digit begins a NUMBER of its own.
        taken("fix A 00015;", 1);
        check.due("x of 0001", house.at(0, 0, 0, 0), 65536);
        check.due("y of 5", house.at(0, 0, 1, 0), 5 * 65536);
        taken("fix A 1/00203;", 1);
        check.due("x of 1/0020", house.at(0, 0, 0, 0), 3276);
        fault("fix A 00015 0;", 1, 12);
    }

    private static void names() {
        fault("fix A 0 0;fix A 1 1;", 2, 14);
        fault("fix A 0 0;fix B 0 0;fix A 0 0;fix B 1 1;", 2, 24);
        fault("fix A 0 0;crank B C 1 0 1 0;", 3, 18);
        fault("fix A 0 0;crank B a 1 0 1 0;", 3, 18);
        fault("crank A A 1 0 1 0;", 4, 6);
        fault("fix O 0 0;body A B O 1 1;body B A O 1 1;", 4, 15);
        fault("body C A O 1 1;fix O 0 0;crank A A 1 0 1 0;", 4, 5);
        // FAULT 4 only if there is no other one.
        fault("crank A A 1 0 1 0;fix B 61 0;", 5, 24);
    }

    private static void numbers() {
        fault("fix A 61 0;", 5, 6);
        fault("fix A 0 -61;", 5, 8);
        fault("fix A 0 6001/100;", 5, 8);
        String base = "fix A 0 0;";
        fault(base + "crank B A 0 0 1 0;", 5, 20);
        fault(base + "crank B A -1 0 1 0;", 5, 20);
        fault(base + "crank B A 61 0 1 0;", 5, 20);
        fault(base + "crank B A 1 4 1 0;", 5, 22);
        fault(base + "crank B A 1 -1 1 0;", 5, 22);
        fault(base + "crank B A 1 1/2 1 0;", 5, 22);
        fault(base + "crank B A 1 0 9 0;", 5, 24);
        fault(base + "crank B A 1 0 -9 0;", 5, 24);
        fault(base + "crank B A 1 0 3/2 0;", 5, 24);
        fault(base + "crank B A 1 0 1 1024;", 5, 26);
        fault(base + "crank B A 1 0 1 -1;", 5, 26);
        fault(base + "crank B A 1 0 1 1/3;", 5, 26);
        fault(base + "dyad B A A 0 1 +;", 5, 21);
        fault(base + "dyad B A A 1 61 +;", 5, 23);
        fault(base + "slide B A 0/5 A A +;", 5, 20);
        fault(base + "body B A A -61 0;", 5, 21);
        fault(base + "body B A A 0 121/2;", 5, 23);
    }

    private static void limits() {
        StringBuilder text = new StringBuilder();
        for (int k = 0; k < 40; k++) {
            text.append("fix ").append((char) ('A' + k / 26)).append((char) ('a' + k % 26)).append(" 0 0;");
        }
        taken(text.toString(), 40);
        int length = text.length();
        fault(text + "fix Zz 0 0;", 6, length + 4);
        // Of one place the least number: told twice and the 41st.
        fault(text + "fix Aa 0 0;", 2, length + 4);
        fault(text + "fix Zz 0 0;fix Zy 99 0;", 6, length + 4);
        fault("body Q Zz Aa 0 0;" + text.substring(0, length - 11) + "fix Zz 0 0;", 6, length + 10);
        String marks = "fix A 0 0;fix B 1 0;";
        for (int k = 0; k < 8; k++) {
            marks += "dyad C" + (char) ('a' + k) + " A B 1 1 ?;";
        }
        taken(marks, 10);
        check.due("count(1)", house.count(1), 8);
        fault(marks + "dyad X A B 1 1 +;slide Y A 1 A B ?;", 6, marks.length() + 33);
    }

    private static void order() {
        // The grammar goes first, then the least place.
        fault("fix A 99 0;fix A 0 0;fix", 1, 24);
        fault("fix A 0 0;crank B C 1 0 1 2000;fix A 0 0;", 3, 18);
        fault("fix A 0 0;crank B A 99 0 1 0;fix A 0 0;", 5, 20);
        fault("fix A 0 0;fix A 99 0;crank B C 1 0 1 0;", 2, 14);
    }

    private static void keeping() {
        house = Check.linked("fix A 1 0;crank B A 1 0 1 0;");
        house.input(0, 17);
        house.load(0, 3, 4);
        house.mass(0, 5);
        fault("fix", 1, 3);
        check.due("count(0) stays", house.count(0), 2);
        check.due("count(2) stays", house.count(2), 17);
        check.due("middle stays", house.middle(0, 0, 0), 65536);
        taken("fix A 1 0;crank B A 1 0 1 0;", 2);
        check.due("count(2) goes", house.count(2), 0);
        check.refuses("the masses go", Check.MISSING, () -> house.middle(0, 0, 0));
        for (int i = 0; i < 4; i++) {
            house.input(i, 9);
        }
        taken("fix A 1 0;crank B A 1 0 1 0;", 2);
        taken("fix A 1 0;crank B A 1 0 1 0;", 2);
        for (int i = 0; i < 4; i++) {
            check.due("an INPUT's place goes", house.count(2 + i), 0);
        }
        house.load(1, 0, 1000);
        check.due("moment", house.moment(0, 0, 0), -65536000);
        taken("fix A 1 0;crank B A 1 0 1 0;", 2);
        check.due("the loads go", house.moment(0, 0, 0), 0);
    }

    private static void points() {
        house = Check.linked("fix bcdefghi 1 0;");
        Check.type(house, "Abcdefghi");
        check.due("point() of nine letters", house.point(), -1);
        house = Check.linked("fix A 1 0;fix Abcdefgh 1 0;fix b 0 0;");
        String[] names = {"A", "Abcdefgh", "b", "B", "a", "A ", " A", "", "Abcdefghi", "Abcdefg", "A;", "1", "AA"};
        int[] want = {0, 1, 2, -1, -1, -1, -1, -1, -1, -1, -1, -1, -1};
        for (int k = 0; k < names.length; k++) {
            Check.type(house, names[k]);
            check.due("point() of " + names[k], house.point(), want[k]);
            check.due("count(10) behind point", house.count(10), names[k].length());
        }
    }
}
