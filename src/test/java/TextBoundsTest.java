/**
 * The boundary sentences on TEXTS: TOKENS, ranges of NUMBERS, limits and FAULTS, of linkages (promise 5), cams (30)
 * and drives (40). Above each test stands the sentence that it holds.
 */
public final class TextBoundsTest {
    private static final Check check = new Check();
    private static final String BASE = "fix A 0 0;fix B 1 0;fix D 0 1;fix E 1 1;";
    private static final String[] LINKAGES = {"fix C 0 0 ;", "crank C A 1 0 0 0 ;", "dyad C A B 1 1 + ;",
        "slide C A 1 D E ? ;", "body C A B 0 0 ;", "cross C A B D E ;"};
    private static final String[] CAMS = {"dwell 360 ;", "rise 180 1 1 ;", "fall 180 1 1 ;"};
    private static final String[] DRIVES = {"turn 0 1 ;", "until 0 1 A + 0 ;", "again 1 ;", "way 0 ;"};
    private static MechanismHouse house;

    public static void main(String[] args) {
        noStatements();
        letters();
        spaces();
        wordsOfEight();
        digitsOfFour();
        notAllZero();
        slash();
        minus();
        keywordsAsNames();
        wrongTokens();
        theEnd();
        linkageRanges();
        cranksRanges();
        notWhole();
        camRanges();
        driveRanges();
        fortyPoints();
        eightMarks();
        thirtyInACam();
        fortyInADrive();
        faultsInPairs();
        grammarFirst();
        twoAndSix();
        never();
        camSums();
        namesNow();
        check.close();
    }

    private static void linkageFault(String text, int number, int place) {
        house = new MechanismHouse();
        check.faulty(text, number, place, house, () -> house.linkage());
        check.due("no POINTS of " + text, house.count(0), 0);
    }

    private static void linkageGood(String text, int points) {
        house = new MechanismHouse();
        Check.type(house, text);
        check.good("linkage of " + text, () -> check.due("linkage of " + text, house.linkage(), points));
        check.due("fault(0) of " + text, house.fault(0), 0);
    }

    private static void camFault(String text, int number, int place) {
        house = new MechanismHouse();
        check.faulty(text, number, place, house, () -> house.cam());
        check.refuses("no CAM of " + text, Check.MISSING, () -> house.camAbout(3));
    }

    private static void camGood(String text, int statements) {
        house = new MechanismHouse();
        Check.type(house, text);
        check.good("cam of " + text, () -> check.due("cam of " + text, house.cam(), statements));
    }

    private static void driveFault(String text, int number, int place) {
        house = Check.linked(BASE);
        check.faulty(text, number, place, house, () -> house.drive());
        check.due("no steps of " + text, house.count(8), 0);
    }

    private static void driveGood(String text) {
        house = Check.linked(BASE);
        Check.type(house, text);
        check.good("drive of " + text, () -> check.due("drive of " + text, house.drive(), 0));
    }

    /** "TEXT [INPUT]: STATEMENTS, each ended by ;": none at all, and only SPACES. */
    private static void noStatements() {
        linkageGood("", 0);
        linkageGood("\t\n\r ", 0);
        driveGood("");
        driveGood(" \n");
        // A CAM's degrees come to 360, so one of none can't be.
        camFault("", 7, 0);
        camFault("  ", 7, 2);
        // Nothing of the ones before comes in again.
        house = Check.linked(BASE);
        for (int k = 0; k < 3; k++) {
            Check.type(house, BASE);
            house.linkage();
            Check.type(house, "dwell 360;");
            house.cam();
            Check.type(house, "turn 0 1;");
            house.drive();
        }
        check.faulty("", 7, 0, house, () -> house.cam());
        check.due("the CAM stays", house.camAbout(3), 1);
        check.due("a DRIVE of none", house.drive(), 0);
        check.due("its steps", house.count(8), 0);
        check.due("a LINKAGE of none", house.linkage(), 0);
        linkageFault(";", 1, 0);
        camFault(";", 1, 0);
        driveFault(";", 1, 0);
        linkageFault("fix A 0 0;;", 1, 10);
    }

    /** "WORDS of letters a .. z, A .. Z": of all 256 bytes only these make a NAME. */
    private static void letters() {
        for (int b = 0; b < 256; b++) {
            String text = "fix " + (char) b + " 0 0;";
            if (b >= 'a' && b <= 'z' || b >= 'A' && b <= 'Z') {
                linkageGood(text, 1);
            } else {
                linkageFault(text, 1, isSpace(b) ? 6 : 4);
            }
        }
    }

    private static boolean isSpace(int b) {
        return b == 9 || b == 10 || b == 13 || b == 32;
    }

    /** "Between TOKENS any SPACES (9, 10, 13, 32)": of all 256 bytes only these. */
    private static void spaces() {
        for (int b = 0; b < 256; b++) {
            String text = "fix A 0" + (char) b + " 0;";
            if (isSpace(b) || b >= '0' && b <= '9') {
                linkageGood(text, 1);
            } else {
                linkageFault(text, 1, 7);
            }
            String ahead = (char) b + "fix A 0 0;";
            if (isSpace(b)) {
                linkageGood(ahead, 1);
            } else {
                linkageFault(ahead, 1, 0);
            }
        }
        linkageGood("fix A0 0;fix\tB\n-1\r2\n\n ;\r\n", 2);
        linkageGood("fix A 0-0;", 1);
        linkageFault("f ix A 0 0;", 1, 0);
    }

    /** "WORDS of letters .. (at most 8)" and "a WORD .. ends where it can't go on". */
    private static void wordsOfEight() {
        linkageGood("fix abcdefgh 0 0;", 1);
        linkageGood("fix ABCDEFGH 0 0;fix ABCDEFGh 0 0;", 2);
        linkageFault("fix abcdefghi 0 0;", 1, 12);
        linkageFault("fixfixfixf A 0 0;", 1, 0);
        // The ninth letter begins the next WORD.
        linkageGood("fix A 0 0;fix B 1 0;body abcdefghA B 0 0;", 3);
        linkageGood("fix abcdefgh 0 0;crank B abcdefgh 1 0 0 0;", 2);
        Check.type(house, "abcdefgh");
        check.due("point of eight letters", house.point(), 0);
    }

    /** "NUMBERS: -? digits (1 to 4), or such / digits (1 to 4 ..)" and "a .. NUMBER ends where it can't go on". */
    private static void digitsOfFour() {
        linkageGood("fix A 0001 -0001;", 1);
        linkageGood("fix A 0060/0001 -9999/9999;", 1);
        linkageFault("fix A 0 00001;", 1, 12);
        linkageFault("fix A 0 -00001;", 1, 13);
        linkageFault("fix A 0 1/00011;", 1, 14);
        linkageFault("fix A 0 00001/1;", 1, 12);
        // The fifth digit begins the next NUMBER.
        linkageGood("fix A 00015;", 1);
        check.due("0001", house.at(0, 0, 0, 0), 65536);
        check.due("5", house.at(0, 0, 1, 0), 5 * 65536);
        linkageGood("fix A -00401/4;", 1);
        check.due("-0040", house.at(0, 0, 0, 0), -40 * 65536);
        check.due("1/4", house.at(0, 0, 1, 0), 16384);
        linkageGood("fix A 1/00043;", 1);
        check.due("1/0004", house.at(0, 0, 0, 0), 16384);
        check.due("3", house.at(0, 0, 1, 0), 3 * 65536);
    }

    /** "/ digits (1 to 4, not all 0)". */
    private static void notAllZero() {
        linkageFault("fix A 1/0 0;", 1, 6);
        linkageFault("fix A 1/00 0;", 1, 6);
        linkageFault("fix A 1/0000 0;", 1, 6);
        linkageFault("fix A -0/000 0;", 1, 6);
        linkageFault("fix A 1/00001 0;", 1, 6);
        linkageGood("fix A 1/0001 0/1000;", 1);
        camFault("dwell 360/0;", 1, 6);
        driveFault("turn 0 1/0;", 1, 7);
    }

    /** "(/ is of a NUMBER only with a digit right behind it.)" */
    private static void slash() {
        linkageFault("fix A 1/ 1 0;", 1, 7);
        linkageFault("fix A 1/;", 1, 7);
        linkageFault("fix A 1/-1 0;", 1, 7);
        linkageFault("fix A 1/A 0;", 1, 7);
        linkageFault("fix A 1//1 0;", 1, 7);
        linkageFault("fix A 1/", 1, 7);
        linkageFault("fix A 1 /1 0;", 1, 8);
        linkageFault("fix A /1 0;", 1, 6);
        linkageFault("fix A 1/2/3;", 1, 9);
    }

    /** "- with a digit right behind begins a NUMBER". */
    private static void minus() {
        linkageGood(BASE + "dyad C A B 1 1-;", 5);
        linkageGood(BASE + "dyad C A B 1 1 -;", 5);
        linkageFault(BASE + "dyad C A B 1 1 -1;", 1, BASE.length() + 15);
        linkageFault(BASE + "dyad C A B 1 1-1;", 1, BASE.length() + 14);
        linkageFault("fix A - 1 0;", 1, 6);
        linkageFault("fix A -/1 0;", 1, 6);
        linkageFault("fix A --1 0;", 1, 6);
        linkageFault("fix A 0 -", 1, 8);
        linkageGood("fix A-1-1;", 1);
        driveGood("until 0 1 A - 0;");
        driveFault("until 0 1 A -0;", 1, 12);
        driveGood("until 0 1 A --1;");
        driveGood("until 0 1 A +-1;");
    }

    /** "NAME: a WORD (also one of those below)." */
    private static void keywordsAsNames() {
        String[] words = {"fix", "crank", "dyad", "slide", "body", "cross", "dwell", "rise", "fall", "turn", "until",
            "again", "way"};
        for (int k = 0; k < words.length; k++) {
            linkageGood("fix " + words[k] + " 3 0;crank x " + words[k] + " 1 0 0 0;", 2);
            Check.type(house, words[k]);
            check.due("point of " + words[k], house.point(), 0);
            Check.type(house, "until 0 1 " + words[k] + " + 2;");
            check.due("until with " + words[k], house.drive(), 0);
            check.due("its steps", house.count(8), 0);
        }
    }

    /** "1 at the first byte with which no TEXT could go on by the grammar (a TOKEN that is wrong: at its first byte". */
    private static void wrongTokens() {
        for (int k = 0; k < LINKAGES.length; k++) {
            eachTokenWrong(BASE, LINKAGES[k], 0);
        }
        for (int k = 0; k < CAMS.length; k++) {
            eachTokenWrong("dwell 1;", CAMS[k], 1);
        }
        for (int k = 0; k < DRIVES.length; k++) {
            eachTokenWrong("turn 0 0;", DRIVES[k], 2);
        }
    }

    private static void eachTokenWrong(String ahead, String statement, int which) {
        String[] tokens = statement.split(" ");
        String[] others = {"zz", "5", "+", "-", "?", ";", "@", "-5", "1/2", "/", "fiX"};
        String before = ahead;
        for (int k = 0; k < tokens.length; k++) {
            for (int other = 0; other < others.length; other++) {
                boolean sign = which == 2 && k == 4 && statement.startsWith("until");
                boolean fits = k > 0 && kind(tokens[k]) == kind(others[other]);
                if (!fits || sign && others[other].equals("?")) {
                    fault(which, before + others[other] + rest(tokens, k + 1), 1, before.length());
                }
            }
            before += tokens[k] + " ";
        }
    }

    private static void fault(int which, String text, int number, int place) {
        if (which == 0) {
            linkageFault(text, number, place);
        } else if (which == 1) {
            camFault(text, number, place);
        } else {
            driveFault(text, number, place);
        }
    }

    /** 0 a WORD, 1 a NUMBER, 2 a sign of a side, 3 the end of a STATEMENT, 4 nothing that is one. */
    private static int kind(String token) {
        char last = token.charAt(token.length() - 1);
        if (Character.isLetter(last)) {
            return 0;
        }
        if (Character.isDigit(last)) {
            return 1;
        }
        if (last == ';') {
            return 3;
        }
        return last == '+' || last == '-' || last == '?' ? 2 : 4;
    }

    private static String rest(String[] tokens, int from) {
        StringBuilder text = new StringBuilder();
        for (int k = from; k < tokens.length; k++) {
            text.append(' ').append(tokens[k]);
        }
        return text.toString();
    }

    /** "the end: INPUT's length)": a TEXT cut behind each TOKEN, with and without SPACES behind. */
    private static void theEnd() {
        for (int k = 0; k < LINKAGES.length; k++) {
            eachCut(BASE, LINKAGES[k], 0);
        }
        for (int k = 0; k < CAMS.length; k++) {
            eachCut("dwell 1;", CAMS[k], 1);
        }
        for (int k = 0; k < DRIVES.length; k++) {
            eachCut("turn 0 0;", DRIVES[k], 2);
        }
    }

    private static void eachCut(String ahead, String statement, int which) {
        String[] tokens = statement.split(" ");
        String before = ahead;
        for (int k = 0; k < tokens.length - 1; k++) {
            before += tokens[k];
            fault(which, before, 1, before.length());
            fault(which, before + " \n", 1, before.length() + 2);
            before += " ";
        }
    }

    /** "X, Y -60 .. 60; R, P, Q above 0, at most 60": "5 a NUMBER out of its range .. (at it)". */
    private static void linkageRanges() {
        String[] sides = {"fix C ", " 0;", "fix C 0 ", ";", "body C A B ", " 0;", "body C A B 0 ", ";"};
        for (int k = 0; k < sides.length; k += 2) {
            String[] good = {"60", "-60", "0", "-0", "9960/166", "-9960/166", "9959/166", "0/9999"};
            String[] bad = {"61", "-61", "9961/166", "-9961/166", "9999", "-9999"};
            eachNumber(sides[k], sides[k + 1], good, bad);
        }
        sides = new String[] {"crank C A ", " 0 0 0;", "dyad C A B ", " 1 +;", "dyad C A B 1 ", " +;",
            "slide C A ", " D E +;"};
        for (int k = 0; k < sides.length; k += 2) {
            String[] good = {"60", "1/9999", "9960/166", "9959/166", "1"};
            String[] bad = {"0", "-0", "0/1", "-1/9999", "-1", "61", "9961/166", "-60", "9999"};
            eachNumber(sides[k], sides[k + 1], good, bad);
        }
    }

    private static void eachNumber(String ahead, String behind, String[] good, String[] bad) {
        for (int k = 0; k < good.length; k++) {
            linkageGood(BASE + ahead + good[k] + behind, 5);
        }
        for (int k = 0; k < bad.length; k++) {
            linkageFault(BASE + ahead + bad[k] + behind, 5, BASE.length() + ahead.length());
        }
    }

    /** "I: 0 .. 3, N: -8 .. 8, K: 0 .. 1,023". */
    private static void cranksRanges() {
        eachNumber("crank C A 1 ", " 0 0;", new String[] {"0", "3", "-0"}, new String[] {"-1", "4", "9999"});
        eachNumber("crank C A 1 0 ", " 0;", new String[] {"-8", "8", "0"}, new String[] {"-9", "9", "9999"});
        eachNumber("crank C A 1 0 0 ", ";", new String[] {"0", "1023"}, new String[] {"-1", "1024", "9999"});
    }

    /** "whole": "5 a NUMBER .. not whole (at it)"; 6 / 2 is a whole number told as a FRACTION. */
    private static void notWhole() {
        eachNumber("crank C A 1 ", " 0 0;", new String[] {"6/2", "0/7"}, new String[] {"1/2", "7/2", "-1/2", "5/2"});
        eachNumber("crank C A 1 0 ", " 0;", new String[] {"-16/2", "8/1"}, new String[] {"15/2", "-15/2", "17/2", "1/9"});
        eachNumber("crank C A 1 0 0 ", ";", new String[] {"9207/9"}, new String[] {"9206/9", "9208/9", "1/9999"});
    }

    /** "W whole degrees 1 .. 360, L above 0, at most 60, K the law 1 .. 4". */
    private static void camRanges() {
        camGood("dwell 1;dwell 359;", 2);
        camGood("dwell 360;", 1);
        camGood("dwell 9720/27;", 1);
        String[] bad = {"0", "361", "-1", "1/2", "719/2", "9999"};
        for (int k = 0; k < bad.length; k++) {
            camFault("dwell " + bad[k] + ";", 5, 6);
            camFault("rise " + bad[k] + " 1 1;", 5, 5);
            camFault("fall " + bad[k] + " 1 1;", 5, 5);
        }
        camGood("rise 180 60 1;fall 180 60 4;", 2);
        camGood("rise 180 1/9999 2;fall 180 1/9999 3;", 2);
        bad = new String[] {"0", "-1", "61", "9961/166", "-1/9999", "0/3"};
        for (int k = 0; k < bad.length; k++) {
            camFault("rise 180 " + bad[k] + " 1;fall 180 1 1;", 5, 9);
            camFault("fall 180 " + bad[k] + " 1;rise 180 1 1;", 5, 9);
        }
        bad = new String[] {"0", "5", "-1", "1/2", "9/2", "9999"};
        for (int k = 0; k < bad.length; k++) {
            camFault("rise 180 1 " + bad[k] + ";fall 180 1 1;", 5, 11);
            camFault("fall 180 1 " + bad[k] + ";rise 180 1 1;", 5, 11);
        }
    }

    /** "T steps (-1,023 .. 1,023)", "again N; (.. 1 .. 9)", "way W; (0 .. 255). I, T, N, W whole. FAULTS 1, 5". */
    private static void driveRanges() {
        String[] good = {"turn 0 1023;", "turn 0 -1023;", "turn 3 0;", "turn 6/2 4/2;", "again 1;", "again 9;",
            "again 18/2;", "way 0;", "way 255;", "way 510/2;", "until 3 1023 A - 9999;", "until 0 -1023 A + -9999;",
            "until 0 1 A + 1/9999;", "until 0 0 A + -1/9999;"};
        for (int k = 0; k < good.length; k++) {
            driveGood(good[k]);
        }
        String[] bad = {"turn 4 0;", "turn -1 0;", "turn 1/2 0;", "turn 7/2 0;", "until 4 0 A + 0;", "until -1 0 A + 0;",
            "until 1/3 0 A + 0;"};
        for (int k = 0; k < bad.length; k++) {
            driveFault(bad[k], 5, bad[k].indexOf(' ') + 1);
        }
        bad = new String[] {"turn 0 1024;", "turn 0 -1024;", "turn 0 1/2;", "turn 0 2047/2;", "until 0 1024 A + 0;",
            "until 0 -1024 A + 0;", "until 0 3/2 A + 0;"};
        for (int k = 0; k < bad.length; k++) {
            driveFault(bad[k], 5, bad[k].indexOf(' ') + 3);
        }
        bad = new String[] {"again 0;", "again 10;", "again -1;", "again 3/2;", "way -1;", "way 256;", "way 1/2;"};
        for (int k = 0; k < bad.length; k++) {
            driveFault(bad[k], 5, bad[k].indexOf(' ') + 1);
        }
    }

    private static String fixes(int many) {
        StringBuilder text = new StringBuilder();
        for (int k = 0; k < many; k++) {
            text.append("fix P").append((char) ('a' + k / 26)).append((char) ('a' + k % 26)).append(" 0 0;");
        }
        return text.toString();
    }

    /** "POINTS are numbered as they are told; at most 40 (a 41st: FAULT 6, at its NAME)". */
    private static void fortyPoints() {
        linkageGood(fixes(39), 39);
        linkageGood(fixes(40), 40);
        Check.type(house, "Pbn");
        check.due("the 40th", house.point(), 39);
        linkageFault(fixes(41), 6, fixes(40).length() + 4);
        linkageFault(fixes(42), 6, fixes(40).length() + 4);
        linkageFault(fixes(200), 6, fixes(40).length() + 4);
        linkageFault(fixes(40) + "body Q Paa Pab 0 0;", 6, fixes(40).length() + 5);
        // As many as 4,000 bytes hold.
        StringBuilder many = new StringBuilder();
        for (int k = 0; k < 400; k++) {
            many.append("fix ").append((char) ('A' + k / 26)).append((char) ('a' + k % 26)).append("0 0;");
        }
        linkageFault(many.toString(), 6, 404);
        // Told in the last of them, hung on in the first.
        linkageFault("body Zz Pi Aa0 0;" + many.substring(0, 3980), 3, 8);
        linkageFault("body Zz Ph Aa0 0;" + many.substring(0, 3980), 6, 17 + 39 * 10 + 4);
    }

    private static String marks(int many) {
        StringBuilder text = new StringBuilder(BASE);
        for (int k = 0; k < many; k++) {
            String name = "M" + (char) ('a' + k);
            text.append(k % 2 == 0 ? "dyad " + name + " A B 1 1 ?;" : "slide " + name + " A 1 D E ?;");
        }
        return text.toString();
    }

    /** "at most 8 of them with ? (the 9th: FAULT 6, at its ?)". */
    private static void eightMarks() {
        linkageGood(marks(7), 11);
        check.due("count(1)", house.count(1), 7);
        linkageGood(marks(8), 12);
        check.due("count(1)", house.count(1), 8);
        linkageGood(marks(8) + "dyad X A B 1 1 +;slide Y A 1 D E -;", 14);
        check.due("count(1)", house.count(1), 8);
        linkageFault(marks(9), 6, marks(9).length() - 2);
        linkageFault(marks(10), 6, marks(9).length() - 2);
        linkageFault(marks(8) + "slide X A 1 D E ?;", 6, marks(8).length() + 16);
    }

    private static String dwells(int many) {
        StringBuilder text = new StringBuilder();
        for (int k = 0; k < many; k++) {
            text.append("dwell 12;");
        }
        return text.toString();
    }

    /** "at most 30" and "6: the 31st (at its WORD)". */
    private static void thirtyInACam() {
        camGood(dwells(29) + "dwell 12;", 30);
        camFault(dwells(29), 7, 29 * 9);
        camFault(dwells(31), 6, 30 * 9);
        camFault(dwells(32), 6, 30 * 9);
        camFault(dwells(30) + "\n rise 0 0 0;", 6, 30 * 9 + 2);
        camFault(dwells(29) + "dwell 0;dwell 12;", 5, 29 * 9 + 6);
    }

    /** "6 more than 40 (the 41st's WORD)". */
    private static void fortyInADrive() {
        StringBuilder text = new StringBuilder();
        for (int k = 0; k < 40; k++) {
            text.append(k % 4 == 3 ? "way 1;" : "turn 0 1;");
        }
        driveGood(text.toString());
        check.due("steps", house.count(8), 30);
        check.due("events", house.count(9), 30);
        driveFault(text + "way 0;", 6, text.length());
        driveFault(text + "way 0;way 0;", 6, text.length());
        driveFault(text + "\t until 9 9999 Z + 0;", 6, text.length() + 2);
        driveFault(text.substring(0, text.length() - 2) + "256;way 0;", 5, text.length() - 2);
    }

    /** "else the one with the least place (..) of: 2 .. 3 .. 5 .. 6": each pair, both ways round. */
    private static void faultsInPairs() {
        String many = fixes(39);
        int end = many.length();
        String eight = marks(8);
        int last = eight.length();
        linkageFault("fix A 0 0;fix A 0 0;crank B Z 1 0 0 0;", 2, 14);
        linkageFault("fix A 0 0;crank B Z 1 0 0 0;fix A 0 0;", 3, 18);
        linkageFault("fix A 0 0;fix A 61 0;", 2, 14);
        linkageFault("fix A 0 61;fix A 0 0;", 5, 8);
        linkageFault("fix A 0 0;body B A Z 61 0;", 3, 19);
        linkageFault("fix A 0 0;slide B A 61 Z A +;", 5, 20);
        linkageFault(many + "fix Paa 0 0;fix Q 0 0;", 2, end + 4);
        linkageFault(many + "fix Q 0 0;fix R 0 0;fix Paa 0 0;", 6, end + 14);
        linkageFault(many + "crank Q Z 1 0 0 0;fix R 0 0;", 3, end + 8);
        linkageFault(many + "fix Q 0 0;crank R Z 1 0 0 0;", 6, end + 16);
        linkageFault(many + "fix Q 0 61;fix R 0 0;", 5, end + 8);
        linkageFault(many + "fix Q 0 0;fix R 0 61;", 6, end + 14);
        linkageFault(eight + "dyad X A B 0 1 ?;", 5, last + 11);
        linkageFault(eight + "dyad X A Z 1 1 ?;", 3, last + 9);
        linkageFault(eight + "dyad X A B 1 1 ?;fix A 0 0;", 6, last + 15);
        linkageFault(eight + "dyad A A B 1 1 ?;", 2, last + 5);
        // Of one NUMBER after the other the first counts.
        linkageFault("fix A 0 0;crank B A 61 4 9 1024;", 5, 20);
        linkageFault("fix A 0 0;crank B A 60 4 9 1024;", 5, 23);
        linkageFault("fix A 0 0;crank B A 60 3 9 1024;", 5, 25);
        linkageFault("fix A 0 0;crank B A 60 3 8 1024;", 5, 27);
        driveFault("until 0 1 Z + 0;turn 9 0;", 3, 10);
        driveFault("turn 9 0;until 0 1 Z + 0;", 5, 5);
        driveFault("until 0 1024 Z + 0;", 5, 8);
    }

    /** "1 ..; else the one with the least place": FAULT 1 comes first, wherever the others stand. */
    private static void grammarFirst() {
        linkageFault("fix A 61 0;fix A 0 0;crank B Z 1 0 0 0;x", 1, 39);
        linkageFault(fixes(41) + "fix", 1, fixes(41).length() + 3);
        linkageFault(marks(9) + ";", 1, marks(9).length());
        linkageFault("crank A A 1 0 0 0;@", 1, 18);
        camFault("dwell 0;dwell", 1, 13);
        camFault(dwells(31) + "?", 1, 31 * 9);
        camFault("rise 360 1 1;-", 1, 13);
        driveFault("turn 9 9999;until 0 0 Z + 0;turn", 1, 32);
    }

    /** "(of one place the least number)": the NAME of a 41st POINT that is told twice. */
    private static void twoAndSix() {
        linkageFault(fixes(40) + "fix Paa 0 0;", 2, fixes(40).length() + 4);
        linkageFault(fixes(40) + "fix Qaa 0 0;fix Paa 0 0;", 6, fixes(40).length() + 4);
    }

    /** "else 4: POINTS that can never be worked out from others (at the first such C)". */
    private static void never() {
        linkageFault("crank C C 1 0 0 0;", 4, 6);
        linkageFault("fix A 0 0;body C A C 0 0;", 4, 15);
        linkageFault("fix A 0 0;body F B A 0 0;body B D A 0 0;body D B A 0 0;", 4, 15);
        linkageFault("fix A 0 0;body B A D 0 0;crank D A 1 0 0 0;cross X A B D Y;cross Y A B D X;", 4, 49);
        linkageFault("crank C C 1 0 0 0;fix A 61 0;", 5, 24);
        linkageFault("crank C C 1 0 0 0;fix C 0 0;", 2, 22);
        linkageFault("crank C C 1 0 0 0;crank B Z 1 0 0 0;", 3, 26);
        linkageFault("crank C C 1 0 0 0;" + fixes(40), 6, 18 + fixes(39).length() + 4);
        // Told later is told well enough, however long the row.
        StringBuilder text = new StringBuilder();
        for (int k = 0; k < 39; k++) {
            text.append("crank ").append(row(k)).append(' ').append(row(k + 1)).append(" 1 0 0 0;");
        }
        linkageGood(text + "fix " + row(39) + " 0 0;", 40);
        check.due("the first of 40", house.at(0, 0, 0, 1), 39 * 65536);
        linkageFault(text + "crank " + row(39) + " " + row(0) + " 1 0 0 0;", 4, 6);
    }

    private static String row(int k) {
        return "R" + (char) ('a' + k / 26) + (char) ('a' + k % 26);
    }

    /** "else 7: the sum of W isn't 360 (at INPUT's length); 8: rises and falls don't come to 0 in all .. (there)". */
    private static void camSums() {
        camGood("dwell 359;dwell 1;", 2);
        camFault("dwell 359;", 7, 10);
        camFault("dwell 360;dwell 1;", 7, 18);
        camFault("dwell 359;\n\n", 7, 12);
        camFault("rise 359 1 1;", 7, 13);
        camFault("rise 180 1 1;fall 180 9999/9998 1;", 8, 34);
        camFault("rise 180 9998/9999 1;fall 180 1 1;", 8, 34);
        camGood("rise 180 9998/9999 1;fall 90 9997/9999 1;fall 90 1/9999 1;", 3);
        camFault("fall 180 1 1;dwell 180;   ", 8, 26);
        // 5 and 6 go ahead of 7 and 8.
        camFault("dwell 359;dwell 0;", 5, 16);
        camFault(dwells(30) + "dwell 12;", 6, 270);
    }

    /** "3 a NAME that is no POINT's now": of the LINKAGE that stands when the DRIVE is read. */
    private static void namesNow() {
        driveGood("until 0 1 B + 9;");
        driveFault("until 0 1 b + 9;", 3, 10);
        driveFault("until 0 1 AA + 9;", 3, 10);
        house = Check.linked("fix A 0 0;");
        check.faulty("until 0 1 B + 0;", 3, 10, house, () -> house.drive());
        Check.type(house, "fix B 0 0;");
        house.linkage();
        check.faulty("until 0 1 A + 0;", 3, 10, house, () -> house.drive());
        Check.type(house, "until 0 1 B + 0;");
        check.due("B is one now", house.drive(), 0);
    }
}
