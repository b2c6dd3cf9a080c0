import java.util.Arrays;
import java.util.NoSuchElementException;

/** A house of mechanisms: linkages, gears and trains, cams, plates, kinds of chains, and drives. */
public final class MechanismHouse {
    private static final int MOST_WAYS = 256;
    private static final int MOST_PLATES = 8;

    private final Text text;
    private final Gearing gearing;
    private final Plate[] plates;
    private final Kinds chains;
    private final Drive driver;
    private final Fraction answer;
    // A text is read into the spare one, so that a FAULT leaves the present one as it is.
    private Linkage present;
    private Linkage spare;
    private Cam presentCam;
    private Cam spareCam;

    public MechanismHouse() {
        text = new Text();
        gearing = new Gearing();
        plates = new Plate[MOST_PLATES];
        for (int p = 0; p < MOST_PLATES; p++) {
            plates[p] = new Plate();
        }
        chains = new Kinds();
        driver = new Drive();
        answer = new Fraction();
        present = new Linkage();
        spare = new Linkage();
        presentCam = new Cam();
        spareCam = new Cam();
    }

    public int feed(int a, int b, int c, int d, int e) throws IndexOutOfBoundsException {
        if (!text.hasRoom(20)) {
            throw new IndexOutOfBoundsException();
        }
        text.gather(a);
        text.gather(b);
        text.gather(c);
        text.gather(d);
        text.gather(e);
        return text.length;
    }

    public int end(int n) throws IllegalArgumentException {
        needRange(n, 0, text.length);
        text.length = n;
        return n;
    }

    public int fault(int what) {
        if (what == 0) {
            return text.fault;
        }
        return what == 1 ? text.place : -1;
    }

    public int linkage() throws UnsupportedOperationException {
        boolean taken = spare.isRead(text);
        text.length = 0;
        if (!taken) {
            throw new UnsupportedOperationException();
        }
        Linkage before = present;
        present = spare;
        spare = before;
        return present.size;
    }

    public int point() {
        return present.numberOf(text.wholeName());
    }

    public void input(int i, int k) throws IllegalArgumentException {
        needRange(i, 0, Linkage.INPUTS - 1);
        needRange(k, 0, Linkage.CIRCLE - 1);
        present.moveTo(i, k);
    }

    public int ways() {
        present.listWays();
        return present.found;
    }

    public int way(int j, int what) throws IllegalArgumentException, NoSuchElementException {
        needRange(what, 0, 1);
        present.listWays();
        needPresence(isWithin(j, present.found));
        return what == 0 ? present.foundWays[j] : present.foundSure[j];
    }

    public long at(int w, int p, int axis, int side)
            throws IllegalArgumentException, NoSuchElementException {
        needRange(w, 0, MOST_WAYS - 1);
        needRange(axis, 0, 1);
        needRange(side, 0, 1);
        needPresence(isWithin(p, present.size));
        needPresence(present.look(w, false) != Linkage.NONE);
        return closedNumber(present.joints[p].at, axis, side);
    }

    public int step(int w, int i, int n) throws IllegalArgumentException, IllegalStateException {
        needRange(w, 0, MOST_WAYS - 1);
        needRange(i, 0, Linkage.INPUTS - 1);
        needRange(n, 1 - Linkage.CIRCLE, Linkage.CIRCLE - 1);
        needSure(w);
        present.walk(w, i, n);
        return present.places[i];
    }

    public int range(int w, int i, int what) throws IllegalArgumentException {
        needRange(w, 0, MOST_WAYS - 1);
        needRange(i, 0, Linkage.INPUTS - 1);
        needRange(what, 0, 2);
        return present.runsOf(w, i, what);
    }

    public long spread(int w, int i, int p, int axis, int side)
            throws IllegalArgumentException, NoSuchElementException {
        needRange(w, 0, MOST_WAYS - 1);
        needRange(i, 0, Linkage.INPUTS - 1);
        needRange(axis, 0, 1);
        needRange(side, 0, 1);
        needPresence(isWithin(p, present.size));
        present.sweep(w, i, p, axis);
        needPresence(!present.most.open);
        return present.most.number(side);
    }

    public long least(int w, int i, int p, int q, int side)
            throws IllegalArgumentException, NoSuchElementException {
        needRange(w, 0, MOST_WAYS - 1);
        needRange(i, 0, Linkage.INPUTS - 1);
        needRange(side, 0, 1);
        needPresence(isWithin(p, present.size) && isWithin(q, present.size));
        present.approach(w, i, p, q);
        needPresence(!present.most.open);
        return present.most.number(side);
    }

    public long speed(int w, int i, int p, int axis, int side)
            throws IllegalArgumentException, NoSuchElementException, IllegalStateException {
        needRange(w, 0, MOST_WAYS - 1);
        needRange(i, 0, Linkage.INPUTS - 1);
        needRange(axis, 0, 1);
        needRange(side, 0, 1);
        needPresence(isWithin(p, present.size));
        needSure(w);
        present.reckonSpeeds(i);
        return closedNumber(present.joints[p].v, axis, side);
    }

    public long pole(int w, int i, int p, int q, int axis, int side)
            throws IllegalArgumentException, NoSuchElementException, IllegalStateException {
        needRange(w, 0, MOST_WAYS - 1);
        needRange(i, 0, Linkage.INPUTS - 1);
        needRange(axis, 0, 1);
        needRange(side, 0, 1);
        needPresence(isWithin(p, present.size) && isWithin(q, present.size));
        needSure(w);
        present.reckonSpeeds(i);
        return closedNumber(present.poleOf(p, q), axis, side);
    }

    public void load(int p, int fx, int fy) throws IllegalArgumentException, NoSuchElementException {
        needRange(fx, -1000, 1000);
        needRange(fy, -1000, 1000);
        needPresence(isWithin(p, present.size));
        present.joints[p].fx = fx;
        present.joints[p].fy = fy;
    }

    public void mass(int p, int m) throws IllegalArgumentException, NoSuchElementException {
        needRange(m, 0, 1000);
        needPresence(isWithin(p, present.size));
        present.joints[p].mass = m;
    }

    public long moment(int w, int i, int side)
            throws IllegalArgumentException, NoSuchElementException, IllegalStateException {
        needRange(w, 0, MOST_WAYS - 1);
        needRange(i, 0, Linkage.INPUTS - 1);
        needRange(side, 0, 1);
        needSure(w);
        present.reckonSpeeds(i);
        present.reckonMoment();
        needPresence(!present.most.open);
        return present.most.number(side);
    }

    public long middle(int w, int axis, int side)
            throws IllegalArgumentException, NoSuchElementException, IllegalStateException {
        needRange(w, 0, MOST_WAYS - 1);
        needRange(axis, 0, 1);
        needRange(side, 0, 1);
        needPresence(present.massInAll() > 0);
        needSure(w);
        present.reckonMiddle(axis);
        needPresence(!present.most.open);
        return present.most.number(side);
    }

    public int gear(int teeth, int shaft) throws IllegalArgumentException, IndexOutOfBoundsException {
        needRange(teeth, 4, 2000);
        needRange(shaft, 0, Gearing.SHAFTS - 1);
        needRoom(gearing.gears < Gearing.MOST_GEARS);
        return gearing.addGear(teeth, shaft);
    }

    public int mesh(int a, int b, boolean inner, int arm) throws IllegalArgumentException,
            NoSuchElementException, IllegalStateException, IndexOutOfBoundsException {
        needRange(arm, -1, Gearing.SHAFTS - 1);
        needPresence(isWithin(a, gearing.gears) && isWithin(b, gearing.gears));
        needLeave(gearing.shaftOf[a] != gearing.shaftOf[b]);
        needRoom(gearing.meshes < Gearing.MOST_MESHES);
        return gearing.addMesh(a, b, inner, arm);
    }

    public void shaft(int s, int how, int p, int q) throws IllegalArgumentException {
        needRange(s, 0, Gearing.SHAFTS - 1);
        needRange(how, 0, 2);
        if (how == Gearing.TOLD) {
            needRange(p, -1000, 1000);
            needRange(q, 1, 1000);
        }
        gearing.setShaft(s, how, p, q);
    }

    public void clear() {
        gearing.forget();
    }

    public int solved() {
        return gearing.outcome();
    }

    public long turns(int s, int what)
            throws IllegalArgumentException, NoSuchElementException, IllegalStateException {
        needRange(s, 0, Gearing.SHAFTS - 1);
        needRange(what, 0, 1);
        needLeave(gearing.outcome() == Gearing.FITS);
        needPresence(gearing.isKnown(s, answer));
        return answer.number(what);
    }

    public int interference(int a, int b, boolean inner) throws NoSuchElementException {
        needPresence(isWithin(a, gearing.gears) && isWithin(b, gearing.gears));
        return gearing.clash(a, b, inner);
    }

    public int trains(int p, int q, int low, int high) throws IllegalArgumentException {
        needRange(p, 1, 10000);
        needRange(q, 1, 10000);
        needRange(low, 4, 120);
        needRange(high, low, 120);
        return gearing.findTrains(p, q, low, high);
    }

    public int train(int k, int what) throws IllegalArgumentException, NoSuchElementException {
        needRange(what, 0, 3);
        needPresence(isWithin(k, gearing.kept));
        return gearing.keptTrains[4 * k + what];
    }

    public int cam() throws UnsupportedOperationException {
        boolean taken = spareCam.isRead(text);
        text.length = 0;
        if (!taken) {
            throw new UnsupportedOperationException();
        }
        Cam before = presentCam;
        presentCam = spareCam;
        spareCam = before;
        return presentCam.size;
    }

    public long lift(int p, int q, int what)
            throws IllegalArgumentException, NoSuchElementException, IllegalStateException {
        needRange(what, 0, 1);
        needRange(q, 1, 1000);
        needRange(p, 0, 360 * q - 1);
        needPresence(presentCam.size > 0);
        presentCam.reckonLift(p, q, answer);
        needLeave(!answer.large);
        return answer.number(what);
    }

    public long camAbout(int what) throws IllegalArgumentException, NoSuchElementException {
        needRange(what, 0, 3);
        needPresence(presentCam.size > 0);
        if (what == 0) {
            return presentCam.smoothness();
        }
        if (what == 3) {
            return presentCam.size;
        }
        presentCam.findSteepest(answer);
        return answer.number(what - 1);
    }

    public int corner(int p, int x, int y) throws IllegalArgumentException, IndexOutOfBoundsException {
        needRange(p, 0, MOST_PLATES - 1);
        needRange(x, -1000, 1000);
        needRange(y, -1000, 1000);
        needRoom(plates[p].size < Plate.MOST_CORNERS);
        return plates[p].addCorner(x, y);
    }

    public void empty(int p) throws IllegalArgumentException {
        needRange(p, 0, MOST_PLATES - 1);
        plates[p].size = 0;
    }

    public long plate(int p, int what) throws IllegalArgumentException, NoSuchElementException {
        needRange(p, 0, MOST_PLATES - 1);
        needRange(what, 0, 8);
        Plate asked = plates[p];
        needPresence(asked.size >= 3);
        if (what == 0) {
            return asked.twiceArea();
        }
        if (what >= 7) {
            return asked.crossing(what == 7);
        }
        needPresence(what >= 5 || asked.twiceArea() != 0);
        asked.reckon((what - 1) / 2, answer);
        return answer.number((what - 1) % 2);
    }

    public int inside(int p, int x, int y) throws IllegalArgumentException, NoSuchElementException {
        needRange(p, 0, MOST_PLATES - 1);
        needRange(x, -1000, 1000);
        needRange(y, -1000, 1000);
        needPresence(plates[p].size >= 3);
        return plates[p].standing(x, y);
    }

    public long distance(int p, int q, int what) throws IllegalArgumentException, NoSuchElementException {
        needRange(p, 0, MOST_PLATES - 1);
        needRange(q, 0, MOST_PLATES - 1);
        needRange(what, 0, 1);
        needPresence(plates[p].size >= 3 && plates[q].size >= 3);
        plates[p].reckonGap(plates[q], answer);
        return answer.number(what);
    }

    public int kinds(int n, int j) throws IllegalArgumentException {
        needRange(n, 3, Kinds.MOST_LINKS);
        needRange(j, 0, 15);
        chains.listAll(n, j);
        return chains.size;
    }

    public int kind(int k) throws NoSuchElementException {
        needPresence(isWithin(k, chains.size));
        return chains.codes[k];
    }

    public int drive() throws UnsupportedOperationException {
        boolean taken = driver.isRead(text, present);
        text.length = 0;
        if (!taken) {
            throw new UnsupportedOperationException();
        }
        return driver.run(present);
    }

    public int event(int k, int what) throws IllegalArgumentException, NoSuchElementException {
        needRange(what, 0, 2);
        needPresence(isWithin(k, driver.keptEvents()));
        return driver.kept[3 * k + what];
    }

    public int count(int what) {
        switch (what) {
            case 0: return present.size;
            case 1: return present.marks;
            case 2: return present.places[0];
            case 3: return present.places[1];
            case 4: return present.places[2];
            case 5: return present.places[3];
            case 6: return gearing.gears;
            case 7: return gearing.meshes;
            case 8: return driver.steps;
            case 9: return driver.events;
            case 10: return text.length;
            case 11: return gearing.kept;
            case 12: return chains.size;
            default: return -1;
        }
    }

    private static boolean isWithin(int k, int size) {
        return k >= 0 && k < size;
    }

    private static void needRange(int n, int low, int high) {
        if (n < low || n > high) {
            throw new IllegalArgumentException();
        }
    }

    private static void needPresence(boolean there) {
        if (!there) {
            throw new NoSuchElementException();
        }
    }

    private static void needLeave(boolean granted) {
        if (!granted) {
            throw new IllegalStateException();
        }
    }

    private static void needRoom(boolean free) {
        if (!free) {
            throw new IndexOutOfBoundsException();
        }
    }

    private void needSure(int w) {
        needLeave(present.look(w, true) == Linkage.SURE);
    }

    private static long closedNumber(Pair pair, int axis, int side) {
        needPresence(!pair.isOpen());
        return (axis == 0 ? pair.x : pair.y).number(side);
    }

    /** INPUT, and its reading by a grammar. */
    private static final class Text {
        static final int MOST_BYTES = 4000;
        private static final int MOST_PARTS = 6;
        private static final int MOST_LETTERS = 8;
        private static final int MOST_DIGITS = 4;
        // No text of 4,000 bytes holds so many points: each takes nine bytes at least.
        private static final int MOST_TOLD = 450;
        private static final int END = 0;
        private static final int WRONG = 1;
        private static final int WORD = 2;
        private static final int NUMBER = 3;

        private final byte[] bytes;
        int length;
        int fault;
        int place;
        private int next;
        private int kind;
        private int start;
        private long name;
        private int top;
        private int bottom;
        int form;
        int begin;
        int used;
        final int[] letters;
        final int[] starts;
        final long[] names;
        final int[] tops;
        final int[] bottoms;
        private final long[] told;
        private int tolds;

        Text() {
            bytes = new byte[MOST_BYTES];
            letters = new int[MOST_PARTS];
            starts = new int[MOST_PARTS];
            names = new long[MOST_PARTS];
            tops = new int[MOST_PARTS];
            bottoms = new int[MOST_PARTS];
            told = new long[MOST_TOLD];
        }

        boolean hasRoom(int more) {
            return length + more <= MOST_BYTES;
        }

        void gather(int four) {
            if (!hasRoom(4)) {
                return;
            }
            bytes[length] = (byte) (four >> 24);
            bytes[length + 1] = (byte) (four >> 16);
            bytes[length + 2] = (byte) (four >> 8);
            bytes[length + 3] = (byte) four;
            length += 4;
        }

        /** INPUT as one name, or 0 if it is none. */
        long wholeName() {
            if (length < 1 || length > MOST_LETTERS) {
                return 0;
            }
            long packed = 0;
            for (int k = 0; k < length; k++) {
                if (!isLetter(byteAt(k))) {
                    return 0;
                }
                packed = packed << 8 | byteAt(k);
            }
            return packed;
        }

        void note(int number, int where) {
            if (fault == 0) {
                fault = number;
                place = where;
            }
        }

        void rewind() {
            next = 0;
        }

        /** Begins the reading of INPUT: goes through it by the grammar alone. */
        boolean isGrammatical(String grammar) {
            fault = 0;
            place = 0;
            tolds = 0;
            rewind();
            for (int k = 0; k < MOST_BYTES && hasStatement(grammar); k++) {
                if (letters[0] == 'C' && tolds < MOST_TOLD) {
                    told[tolds] = names[0];
                    tolds++;
                }
            }
            rewind();
            return fault == 0;
        }

        /** Which statement tells a name first, or -1. */
        int tellerOf(long sought) {
            for (int k = 0; k < tolds; k++) {
                if (told[k] == sought) {
                    return k;
                }
            }
            return -1;
        }

        /** Reads the next statement; false at the end, and at a FAULT. */
        boolean hasStatement(String grammar) {
            readToken();
            begin = start;
            if (kind == END) {
                return false;
            }
            int g = kind == WORD ? findForm(grammar) : -1;
            if (g < 0) {
                note(1, start);
                return false;
            }
            used = 0;
            for (; g < grammar.length() && grammar.charAt(g) != ';' && used < MOST_PARTS; g++) {
                readToken();
                if (!fits(grammar.charAt(g))) {
                    note(1, start);
                    return false;
                }
                keepPart(grammar.charAt(g));
            }
            readToken();
            if (kind != ';') {
                note(1, start);
                return false;
            }
            return true;
        }

        /** Where the parts of the form begin whose word was read, or -1. */
        private int findForm(String grammar) {
            long word = 0;
            form = 0;
            for (int g = 0; g < grammar.length(); g++) {
                char c = grammar.charAt(g);
                if (c == ';') {
                    form++;
                    word = 0;
                } else if (c != ' ') {
                    word = word << 8 | c;
                } else if (word == name) {
                    return g + 1;
                }
            }
            return -1;
        }

        private boolean fits(char letter) {
            switch (letter) {
                case 'C':
                case 'P':
                    return kind == WORD;
                case 'S':
                    return kind == '+' || kind == '-' || kind == '?';
                case 'D':
                    return kind == '+' || kind == '-';
                default:
                    return kind == NUMBER;
            }
        }

        private void keepPart(char letter) {
            letters[used] = letter;
            starts[used] = start;
            names[used] = name;
            tops[used] = kind == NUMBER ? top : kind;
            bottoms[used] = bottom;
            used++;
        }

        /** Whether the number in a part keeps to the range that the part's letter stands for. */
        boolean isInRange(int part) {
            switch (letters[part]) {
                case 'x': return Math.abs(tops[part]) <= 60 * bottoms[part];
                case 'r': return tops[part] > 0 && tops[part] <= 60 * bottoms[part];
                case 'i': return isWhole(part, 0, 3);
                case 'n': return isWhole(part, -8, 8);
                case 'k': return isWhole(part, 0, 1023);
                case 'w': return isWhole(part, 1, 360);
                case 'l': return isWhole(part, 1, 4);
                case 't': return isWhole(part, -1023, 1023);
                case 'a': return isWhole(part, 1, 9);
                case 'b': return isWhole(part, 0, 255);
                default: return true;
            }
        }

        private boolean isWhole(int part, int low, int high) {
            int whole = whole(part);
            return whole * bottoms[part] == tops[part] && whole >= low && whole <= high;
        }

        int whole(int part) {
            return bottoms[part] > 0 ? tops[part] / bottoms[part] : 0;
        }

        private void readToken() {
            skipSpaces();
            start = next;
            name = 0;
            top = 0;
            bottom = 1;
            int b = byteAt(next);
            if (b < 0) {
                kind = END;
            } else if (isLetter(b)) {
                readWord();
            } else if (isDigit(b) || b == '-' && isDigit(byteAt(next + 1))) {
                readNumber(b == '-');
            } else {
                next++;
                kind = b == '+' || b == '-' || b == '?' || b == ';' ? b : WRONG;
            }
        }

        private void skipSpaces() {
            for (int k = 0; k < MOST_BYTES; k++) {
                int b = byteAt(next);
                if (b != 9 && b != 10 && b != 13 && b != 32) {
                    return;
                }
                next++;
            }
        }

        private void readWord() {
            kind = WORD;
            for (int k = 0; k < MOST_LETTERS && isLetter(byteAt(next)); k++) {
                name = name << 8 | byteAt(next);
                next++;
            }
        }

        private void readNumber(boolean negative) {
            kind = NUMBER;
            if (negative) {
                next++;
            }
            int digits = readDigits();
            top = negative ? -digits : digits;
            if (byteAt(next) == '/' && isDigit(byteAt(next + 1))) {
                next++;
                bottom = readDigits();
                if (bottom == 0) {
                    kind = WRONG;
                }
            }
        }

        private int readDigits() {
            int digits = 0;
            for (int k = 0; k < MOST_DIGITS && isDigit(byteAt(next)); k++) {
                digits = 10 * digits + byteAt(next) - '0';
                next++;
            }
            return digits;
        }

        private int byteAt(int k) {
            return k >= 0 && k < length ? bytes[k] & 255 : -1;
        }

        private static boolean isLetter(int b) {
            return b >= 'a' && b <= 'z' || b >= 'A' && b <= 'Z';
        }

        private static boolean isDigit(int b) {
            return b >= '0' && b <= '9';
        }
    }

    /** A sure box: whole numbers of 2^-16 between which something lies. */
    private static final class Box {
        static final long ONE = 65536;
        private static final int SHIFT = 16;
        private static final long FAR = 1L << 31;
        // The root of 2^16 times 2^31 has 24 bits.
        private static final int ROOT_BITS = 24;

        long lo;
        long hi;
        boolean open;

        Box() {
            lo = 0;
            hi = 0;
            open = false;
        }

        void keep(long lesser, long greater) {
            lo = lesser;
            hi = greater;
            open = lesser < -FAR || greater > FAR;
        }

        void shut() {
            lo = 0;
            hi = 0;
            open = true;
        }

        void copy(Box a) {
            lo = a.lo;
            hi = a.hi;
            open = a.open;
        }

        long number(int side) {
            return side == 0 ? lo : hi;
        }

        void fraction(long p, long q) {
            if (q <= 0) {
                shut();
                return;
            }
            keep(Math.floorDiv(ONE * p, q), -Math.floorDiv(-ONE * p, q));
        }

        void plus(Box a, Box b) {
            if (a.open || b.open) {
                shut();
                return;
            }
            keep(a.lo + b.lo, a.hi + b.hi);
        }

        void minus(Box a, Box b) {
            if (a.open || b.open) {
                shut();
                return;
            }
            keep(a.lo - b.hi, a.hi - b.lo);
        }

        void negative(Box a) {
            if (a.open) {
                shut();
                return;
            }
            keep(-a.hi, -a.lo);
        }

        /** Adds the product of two boxes, or takes it if the sign is below 0. */
        void addProduct(int sign, Box a, Box b) {
            if (open || a.open || b.open) {
                shut();
                return;
            }
            long p = a.lo * b.lo;
            long q = a.lo * b.hi;
            long r = a.hi * b.lo;
            long s = a.hi * b.hi;
            long least = Math.min(Math.min(p, q), Math.min(r, s)) >> SHIFT;
            long most = -(-Math.max(Math.max(p, q), Math.max(r, s)) >> SHIFT);
            if (least < -FAR || most > FAR) {
                shut();
            } else if (sign > 0) {
                keep(lo + least, hi + most);
            } else {
                keep(lo - most, hi - least);
            }
        }

        void addSquare(Box a) {
            if (open || a.open) {
                shut();
                return;
            }
            long p = a.lo * a.lo;
            long q = a.hi * a.hi;
            long least = a.lo <= 0 && a.hi >= 0 ? 0 : Math.min(p, q) >> SHIFT;
            long most = -(-Math.max(p, q) >> SHIFT);
            if (most > FAR) {
                shut();
            } else {
                keep(lo + least, hi + most);
            }
        }

        void addWhole(long n, Box a) {
            if (open || a.open) {
                shut();
                return;
            }
            long least = n >= 0 ? n * a.lo : n * a.hi;
            long most = n >= 0 ? n * a.hi : n * a.lo;
            if (least < -FAR || most > FAR) {
                shut();
            } else {
                keep(lo + least, hi + most);
            }
        }

        void quotient(Box a, Box b) {
            if (a.open || b.open || b.lo <= 0 && b.hi >= 0) {
                shut();
                return;
            }
            boolean turned = b.hi < 0;
            long low = ONE * (turned ? -a.hi : a.lo);
            long high = ONE * (turned ? -a.lo : a.hi);
            long small = turned ? -b.hi : b.lo;
            long great = turned ? -b.lo : b.hi;
            keep(Math.floorDiv(low, low >= 0 ? great : small),
                    -Math.floorDiv(-high, high >= 0 ? small : great));
        }

        void takeRoot() {
            if (open || lo < 0) {
                shut();
                return;
            }
            long low = rootBelow(lo << SHIFT);
            long high = rootBelow(hi << SHIFT);
            keep(low, high * high < hi << SHIFT ? high + 1 : high);
        }

        private static long rootBelow(long n) {
            long root = 0;
            for (int bit = ROOT_BITS - 1; bit >= 0; bit--) {
                long more = root | 1L << bit;
                if (more * more <= n) {
                    root = more;
                }
            }
            return root;
        }

        void shareAmong(long n) {
            if (open || n <= 0) {
                shut();
                return;
            }
            keep(Math.floorDiv(lo, n), -Math.floorDiv(-hi, n));
        }

        void norm(Pair a) {
            keep(0, 0);
            addSquare(a.x);
            addSquare(a.y);
        }

        void dot(Pair a, Pair b) {
            keep(0, 0);
            addProduct(1, a.x, b.x);
            addProduct(1, a.y, b.y);
        }

        void cross(Pair a, Pair b) {
            keep(0, 0);
            addProduct(1, a.x, b.y);
            addProduct(-1, a.y, b.x);
        }
    }

    /** Two boxes: a place, a way between places, or a speed. */
    private static final class Pair {
        final Box x;
        final Box y;

        Pair() {
            x = new Box();
            y = new Box();
        }

        boolean isOpen() {
            return x.open || y.open;
        }

        void shut() {
            x.shut();
            y.shut();
        }

        void zero() {
            x.keep(0, 0);
            y.keep(0, 0);
        }

        void copy(Pair a) {
            x.copy(a.x);
            y.copy(a.y);
        }

        void minus(Pair a, Pair b) {
            x.minus(a.x, b.x);
            y.minus(a.y, b.y);
        }

        /** D(k). */
        void direct(int k) {
            int quarters = k / 256;
            long r = k % 256;
            long below = 65536 + r * r;
            Box first = quarters % 2 == 0 ? x : y;
            Box second = quarters % 2 == 0 ? y : x;
            first.fraction(65536 - r * r, below);
            second.fraction(512 * r, below);
            if (quarters == 1 || quarters == 2) {
                x.negative(x);
            }
            if (quarters == 2 || quarters == 3) {
                y.negative(y);
            }
        }

        /** The product (x, y)(u, v); neither of the two may be this pair. */
        void product(Pair a, Pair b) {
            x.keep(0, 0);
            x.addProduct(1, a.x, b.x);
            x.addProduct(-1, a.y, b.y);
            y.keep(0, 0);
            y.addProduct(1, a.x, b.y);
            y.addProduct(1, a.y, b.x);
        }

        void add(Box k, Pair a) {
            x.addProduct(1, k, a.x);
            y.addProduct(1, k, a.y);
        }

        /** Adds k TURNED(a); -(k y) is the same box as k (-y). */
        void addTurned(int sign, Box k, Pair a) {
            x.addProduct(-sign, k, a.y);
            y.addProduct(sign, k, a.x);
        }
    }

    /** A fraction in lowest terms; large once something in it was TOO LARGE. */
    private static final class Fraction {
        private static final long LIMIT = 1000000000000000L;
        // Euclid's steps for two longs are fewer than this.
        private static final int MOST_STEPS = 100;

        long p;
        long q;
        boolean large;

        Fraction() {
            p = 0;
            q = 1;
            large = false;
        }

        void set(long over, long under) {
            large = false;
            reduce(over, under);
        }

        private void reduce(long over, long under) {
            long g = gcd(over, under);
            if (under == 0 || g == 0) {
                p = 0;
                q = 1;
                large = true;
                return;
            }
            p = under < 0 ? -over / g : over / g;
            q = Math.abs(under) / g;
        }

        void copy(Fraction a) {
            p = a.p;
            q = a.q;
            large = a.large;
        }

        long number(int what) {
            return what == 0 ? p : q;
        }

        /** Adds c / d, in lowest terms. */
        void add(long c, long d) {
            long g = gcd(q, d);
            if (large || g == 0) {
                large = true;
                return;
            }
            long left = checked(p, d / g);
            long right = checked(c, q / g);
            long under = checked(q, d / g);
            if (Math.abs(left + right) > LIMIT) {
                large = true;
            }
            if (!large) {
                reduce(left + right, under);
            }
        }

        /** Multiplies by c / d, in lowest terms. */
        void times(long c, long d) {
            long g = gcd(p, d);
            long h = gcd(c, q);
            if (large || g == 0 || h == 0) {
                large = true;
                return;
            }
            long over = checked(p / g, c / h);
            long under = checked(q / h, d / g);
            if (!large) {
                p = over;
                q = under;
            }
        }

        /** A product of two numbers; 0 and large if it is TOO LARGE. */
        private long checked(long a, long b) {
            if (b != 0 && Math.abs(a) > LIMIT / Math.abs(b)) {
                large = true;
                return 0;
            }
            return a * b;
        }

        /** Whether it is above a / b; both of them not below 0 (by parts, as whole products would not fit). */
        boolean isAbove(long a, long b) {
            if (b <= 0 || q <= 0) {
                return false;
            }
            if (p / q != a / b) {
                return p / q > a / b;
            }
            return p % q * b > a % b * q;
        }

        private static long gcd(long a, long b) {
            long m = Math.abs(a);
            long n = Math.abs(b);
            for (int k = 0; k < MOST_STEPS && n != 0; k++) {
                long rest = m % n;
                m = n;
                n = rest;
            }
            return m;
        }
    }

    /** A POINT of a linkage: how it hangs on others, where it is, how fast. */
    private static final class Joint {
        static final int FIX = 0;
        static final int CRANK = 1;
        static final int DYAD = 2;
        static final int SLIDE = 3;
        static final int BODY = 4;
        static final int CROSS = 5;

        long name;
        int form;
        final int[] on;
        int parents;
        int input;
        int power;
        boolean minus;
        int bit;
        int mask;
        final Box one;
        final Box two;
        final Pair turn;
        final Pair at;
        final Pair aim;
        final Pair v;
        int status;
        boolean fresh;
        int fx;
        int fy;
        int mass;

        Joint() {
            on = new int[4];
            one = new Box();
            two = new Box();
            turn = new Pair();
            at = new Pair();
            aim = new Pair();
            v = new Pair();
        }

        /** Becomes what the statement tells that was read last; mark is the number of its ?. */
        void become(Text text, int mark) {
            name = text.names[0];
            form = text.form;
            parents = 0;
            mask = 0;
            bit = -1;
            minus = false;
            fresh = false;
            fx = 0;
            fy = 0;
            mass = 0;
            boolean first = true;
            for (int k = 1; k < text.used; k++) {
                if (text.letters[k] == 'x' || text.letters[k] == 'r') {
                    takeNumber(first ? one : two, text.tops[k], text.bottoms[k]);
                    first = false;
                } else {
                    takePart(text, k, mark);
                }
            }
            if (form == CRANK) {
                two.fraction((long) power * text.tops[2], text.bottoms[2]);
            }
        }

        private void takeNumber(Box into, long p, long q) {
            if (form == DYAD || form == SLIDE) {
                into.fraction(p * p, q * q);
            } else {
                into.fraction(p, q);
            }
        }

        private void takePart(Text text, int k, int mark) {
            switch (text.letters[k]) {
                case 'P':
                    if (parents < on.length) {
                        on[parents] = text.tellerOf(text.names[k]);
                        parents++;
                    }
                    break;
                case 'i':
                    input = text.whole(k);
                    mask = Linkage.FIRST_INPUT << input;
                    break;
                case 'n':
                    power = text.whole(k);
                    break;
                case 'k':
                    turn.direct(text.whole(k));
                    break;
                default:
                    minus = text.tops[k] == '-';
                    if (text.tops[k] == '?') {
                        bit = mark;
                        mask = 1 << mark;
                    }
                    break;
            }
        }

        /** The sign that it has in a way. */
        int signIn(int way) {
            boolean less = bit >= 0 ? (way >> bit & 1) == 1 : minus;
            return less ? -1 : 1;
        }
    }

    /** A linkage: its POINTS, INPUTS and WAYS. */
    private static final class Linkage {
        static final int SURE = 0;
        static final int DOUBTFUL = 1;
        static final int OPEN = 2;
        static final int NONE = 3;
        static final int INPUTS = 4;
        static final int CIRCLE = 1024;
        // In a joint's mask the bits below this one are those of the ?, from here on those of INPUTS.
        static final int FIRST_INPUT = 256;
        private static final int MOST_POINTS = 40;
        private static final int MOST_MARKS = 8;
        private static final String GRAMMAR =
                "fix Cxx;crank CPrink;dyad CPPrrS;slide CPrPPS;body CPPxx;cross CPPPP;";

        final Joint[] joints;
        private final int[] order;
        int size;
        int marks;
        final int[] places;
        private final Pair[] aims;
        private int way;
        final int[] foundWays;
        final int[] foundSure;
        int found;
        private boolean listed;
        private final Pair d;
        private final Pair u;
        private final Pair f;
        private final Pair g;
        private final Box n;
        private final Box e;
        private final Box t;
        private final Box h;
        final Box most;

        Linkage() {
            joints = new Joint[MOST_POINTS];
            for (int k = 0; k < MOST_POINTS; k++) {
                joints[k] = new Joint();
            }
            order = new int[MOST_POINTS];
            places = new int[INPUTS];
            aims = new Pair[INPUTS];
            for (int i = 0; i < INPUTS; i++) {
                aims[i] = new Pair();
                aims[i].x.keep(Box.ONE, Box.ONE);
            }
            foundWays = new int[1 << MOST_MARKS];
            foundSure = new int[1 << MOST_MARKS];
            d = new Pair();
            u = new Pair();
            f = new Pair();
            g = new Pair();
            n = new Box();
            e = new Box();
            t = new Box();
            h = new Box();
            most = new Box();
        }

        /** Becomes what INPUT tells; false at a FAULT, and what it is then is of no use. */
        boolean isRead(Text text) {
            size = 0;
            marks = 0;
            way = 0;
            listed = false;
            for (int i = 0; i < INPUTS; i++) {
                moveTo(i, 0);
            }
            boolean going = text.isGrammatical(GRAMMAR);
            for (int k = 0; k < Text.MOST_BYTES && going; k++) {
                going = text.hasStatement(GRAMMAR) && isTaken(text, k);
            }
            if (text.fault == 0) {
                int stuck = arrange();
                if (stuck >= 0) {
                    text.note(4, placeOfTeller(text, stuck));
                }
            }
            return text.fault == 0;
        }

        private boolean isTaken(Text text, int k) {
            int mark = marks;
            for (int part = 0; part < text.used; part++) {
                checkPart(text, part, k);
            }
            if (text.fault != 0 || k >= MOST_POINTS) {
                return false;
            }
            joints[k].become(text, mark);
            size = k + 1;
            return true;
        }

        private void checkPart(Text text, int part, int k) {
            int place = text.starts[part];
            switch (text.letters[part]) {
                case 'C':
                    if (text.tellerOf(text.names[part]) < k) {
                        text.note(2, place);
                    } else if (k >= MOST_POINTS) {
                        text.note(6, place);
                    }
                    break;
                case 'P':
                    if (text.tellerOf(text.names[part]) < 0) {
                        text.note(3, place);
                    }
                    break;
                case 'S':
                    if (text.tops[part] == '?' && marks >= MOST_MARKS) {
                        text.note(6, place);
                    } else if (text.tops[part] == '?') {
                        marks++;
                    }
                    break;
                default:
                    if (!text.isInRange(part)) {
                        text.note(5, place);
                    }
                    break;
            }
        }

        /** Orders the POINTS so that each comes behind those it hangs on: the first that can't be, or -1. */
        private int arrange() {
            long placed = 0;
            int sorted = 0;
            for (int round = 0; round < size && sorted < size; round++) {
                for (int p = 0; p < size; p++) {
                    if ((placed >> p & 1) == 0 && isReady(joints[p], placed)) {
                        placed |= 1L << p;
                        order[sorted] = p;
                        sorted++;
                        inheritMask(joints[p]);
                    }
                }
            }
            for (int p = 0; p < size; p++) {
                if ((placed >> p & 1) == 0) {
                    return p;
                }
            }
            return -1;
        }

        private static boolean isReady(Joint c, long placed) {
            for (int k = 0; k < c.parents; k++) {
                if ((placed >> c.on[k] & 1) == 0) {
                    return false;
                }
            }
            return true;
        }

        private void inheritMask(Joint c) {
            for (int k = 0; k < c.parents; k++) {
                c.mask |= joints[c.on[k]].mask;
            }
        }

        private static int placeOfTeller(Text text, int p) {
            text.rewind();
            for (int k = 0; k <= p; k++) {
                text.hasStatement(GRAMMAR);
            }
            return text.starts[0];
        }

        int numberOf(long name) {
            for (int p = 0; p < size; p++) {
                if (joints[p].name == name) {
                    return p;
                }
            }
            return -1;
        }

        void moveTo(int i, int k) {
            if (places[i] == k) {
                return;
            }
            places[i] = k;
            aims[i].direct(k);
            listed = false;
            touch(FIRST_INPUT << i);
        }

        private void touch(int bits) {
            for (int p = 0; p < size; p++) {
                if ((joints[p].mask & bits) != 0) {
                    joints[p].fresh = false;
                }
            }
        }

        /**
         * Works out the POINTS of a way: SURE, DOUBTFUL (in doubt) or NONE. With sureOnly it stops where the
         * way can't be SURE any more. A POINT is worked out anew only if something has changed that it hangs on.
         */
        int look(int w, boolean sureOnly) {
            int chosen = w & (1 << marks) - 1;
            if (chosen != way) {
                touch(chosen ^ way);
                way = chosen;
            }
            int outcome = SURE;
            for (int k = 0; k < size; k++) {
                Joint c = joints[order[k]];
                if (!c.fresh && hangsOnOpen(c)) {
                    c.at.shut();
                    c.status = OPEN;
                } else if (!c.fresh) {
                    switch (c.form) {
                        case Joint.CRANK: c.status = placeCrank(c); break;
                        case Joint.DYAD: c.status = placeDyad(c); break;
                        case Joint.SLIDE: c.status = placeSlide(c); break;
                        case Joint.BODY:
                            span(c, c.at, joints[c.on[0]].at, joints[c.on[1]].at);
                            c.status = openOr(c, SURE);
                            break;
                        case Joint.CROSS: c.status = placeCross(c); break;
                        default: c.status = placeFix(c); break;
                    }
                }
                c.fresh = true;
                if (c.status == NONE) {
                    return NONE;
                }
                if (c.status != SURE) {
                    outcome = DOUBTFUL;
                }
                if (sureOnly && outcome != SURE) {
                    return outcome;
                }
            }
            return outcome;
        }

        private boolean hangsOnOpen(Joint c) {
            for (int k = 0; k < c.parents; k++) {
                if (joints[c.on[k]].status == OPEN) {
                    return true;
                }
            }
            return false;
        }

        private static int openOr(Joint c, int status) {
            return c.at.isOpen() ? OPEN : status;
        }

        private static int placeFix(Joint c) {
            c.at.x.copy(c.one);
            c.at.y.copy(c.two);
            return openOr(c, SURE);
        }

        private int placeCrank(Joint c) {
            d.copy(aims[c.input]);
            if (c.power < 0) {
                d.y.negative(d.y);
            }
            c.aim.copy(d);
            if (c.power == 0) {
                c.aim.zero();
                c.aim.x.keep(Box.ONE, Box.ONE);
            }
            for (int k = 1; k < Math.abs(c.power); k++) {
                u.product(c.aim, d);
                c.aim.copy(u);
            }
            u.product(c.aim, c.turn);
            c.aim.copy(u);
            c.at.copy(joints[c.on[0]].at);
            c.at.add(c.one, c.aim);
            return openOr(c, SURE);
        }

        private int placeDyad(Joint c) {
            Pair a = joints[c.on[0]].at;
            d.minus(joints[c.on[1]].at, a);
            n.norm(d);
            e.plus(n, c.one);
            e.minus(e, c.two);
            e.shareAmong(2);
            t.quotient(e, n);
            h.copy(c.one);
            h.addProduct(-1, e, t);
            int status = judgeRest();
            if (status == NONE) {
                return NONE;
            }
            h.quotient(h, n);
            h.takeRoot();
            c.at.copy(a);
            c.at.add(t, d);
            c.at.addTurned(c.signIn(way), h, d);
            return openOr(c, status);
        }

        private int placeSlide(Joint c) {
            Pair from = joints[c.on[1]].at;
            u.minus(joints[c.on[2]].at, from);
            n.norm(u);
            d.minus(from, joints[c.on[0]].at);
            e.dot(d, u);
            t.negative(e);
            t.quotient(t, n);
            h.norm(d);
            h.addProduct(1, e, t);
            h.minus(c.one, h);
            int status = judgeRest();
            if (status == NONE) {
                return NONE;
            }
            h.quotient(h, n);
            h.takeRoot();
            if (c.signIn(way) > 0) {
                t.plus(t, h);
            } else {
                t.minus(t, h);
            }
            c.at.copy(from);
            c.at.add(t, u);
            return openOr(c, status);
        }

        /** What h tells: NONE, DOUBTFUL (its lesser number counts as 0 then) or SURE; an OPEN one tells nothing. */
        private int judgeRest() {
            if (h.open || h.lo >= 0) {
                return SURE;
            }
            if (h.hi < 0) {
                return NONE;
            }
            h.keep(0, h.hi);
            return DOUBTFUL;
        }

        /** A + X (B - A) + Y TURNED(B - A), of places or of speeds. */
        private void span(Joint c, Pair out, Pair a, Pair b) {
            d.minus(b, a);
            out.copy(a);
            out.add(c.one, d);
            out.addTurned(1, c.two, d);
        }

        private int placeCross(Joint c) {
            Pair a = joints[c.on[0]].at;
            Pair from = joints[c.on[2]].at;
            d.minus(joints[c.on[1]].at, a);
            u.minus(joints[c.on[3]].at, from);
            f.minus(from, a);
            e.cross(f, u);
            n.cross(d, u);
            t.quotient(e, n);
            c.at.copy(a);
            c.at.add(t, d);
            return openOr(c, SURE);
        }

        void listWays() {
            if (listed) {
                return;
            }
            found = 0;
            for (int w = 0; w < 1 << marks && w < foundWays.length; w++) {
                int status = look(w, false);
                if (status != NONE) {
                    foundWays[found] = w;
                    foundSure[found] = status == SURE ? 1 : 0;
                    found++;
                }
            }
            listed = true;
        }

        void walk(int w, int i, int steps) {
            int one = steps < 0 ? -1 : 1;
            for (int k = 0; k < Math.abs(steps); k++) {
                int stood = places[i];
                moveTo(i, stood + one & CIRCLE - 1);
                if (look(w, true) != SURE) {
                    moveTo(i, stood);
                    return;
                }
            }
        }

        int runsOf(int w, int i, int what) {
            int stood = places[i];
            moveTo(i, CIRCLE - 1);
            boolean before = look(w, true) == SURE;
            int sure = 0;
            int runs = 0;
            int least = -1;
            for (int k = 0; k < CIRCLE; k++) {
                moveTo(i, k);
                boolean now = look(w, true) == SURE;
                sure += now ? 1 : 0;
                if (now && !before) {
                    runs++;
                    least = least < 0 ? k : least;
                }
                before = now;
            }
            moveTo(i, stood);
            if (what == 0) {
                return sure;
            }
            if (sure == CIRCLE) {
                return what == 1 ? 1 : 0;
            }
            return what == 1 ? runs : least;
        }

        /** Into most: the span of a POINT's axis over all places of INPUT i where the way is SURE; OPEN if none. */
        void sweep(int w, int i, int p, int axis) {
            int stood = places[i];
            Box asked = axis == 0 ? joints[p].at.x : joints[p].at.y;
            most.shut();
            for (int k = 0; k < CIRCLE; k++) {
                moveTo(i, k);
                if (look(w, true) == SURE) {
                    boolean first = most.open;
                    most.keep(first ? asked.lo : Math.min(most.lo, asked.lo),
                            first ? asked.hi : Math.max(most.hi, asked.hi));
                }
            }
            moveTo(i, stood);
        }

        /** Into most: the least numbers of the squared distance over all these places; OPEN if none. */
        void approach(int w, int i, int p, int q) {
            int stood = places[i];
            most.shut();
            for (int k = 0; k < CIRCLE; k++) {
                moveTo(i, k);
                if (look(w, true) == SURE) {
                    d.minus(joints[p].at, joints[q].at);
                    n.norm(d);
                    offerLeast();
                }
            }
            moveTo(i, stood);
        }

        private void offerLeast() {
            if (n.open) {
                return;
            }
            boolean first = most.open;
            most.keep(first ? n.lo : Math.min(most.lo, n.lo), first ? n.hi : Math.min(most.hi, n.hi));
        }

        /** The SPEEDS for INPUT i, of the way that was found SURE last. */
        void reckonSpeeds(int i) {
            for (int k = 0; k < size; k++) {
                Joint c = joints[order[k]];
                switch (c.form) {
                    case Joint.CRANK: speedCrank(c, i); break;
                    case Joint.DYAD: speedDyad(c); break;
                    case Joint.SLIDE: speedSlide(c); break;
                    case Joint.BODY: span(c, c.v, joints[c.on[0]].v, joints[c.on[1]].v); break;
                    case Joint.CROSS: speedCross(c); break;
                    default: c.v.zero(); break;
                }
                if (c.v.isOpen()) {
                    c.v.shut();
                }
            }
        }

        private void speedCrank(Joint c, int i) {
            c.v.copy(joints[c.on[0]].v);
            if (c.input == i) {
                c.v.addTurned(1, c.two, c.aim);
            }
        }

        private void speedDyad(Joint c) {
            Joint a = joints[c.on[0]];
            Joint b = joints[c.on[1]];
            d.minus(c.at, a.at);
            u.minus(c.at, b.at);
            e.dot(d, a.v);
            t.dot(u, b.v);
            meet(c.v, d, u);
        }

        /** Where the product with a is e and that with b is t. */
        private void meet(Pair out, Pair a, Pair b) {
            n.cross(a, b);
            h.keep(0, 0);
            h.addProduct(1, e, b.y);
            h.addProduct(-1, t, a.y);
            out.x.quotient(h, n);
            h.keep(0, 0);
            h.addProduct(1, a.x, t);
            h.addProduct(-1, b.x, e);
            out.y.quotient(h, n);
        }

        private void speedSlide(Joint c) {
            Joint a = joints[c.on[0]];
            drift(t, u, c, joints[c.on[1]], joints[c.on[2]]);
            d.minus(c.at, a.at);
            e.dot(d, a.v);
            n.dot(d, u);
            n.negative(n);
            h.keep(0, 0);
            h.addProduct(-1, u.x, e);
            h.addProduct(-1, d.y, t);
            c.v.x.quotient(h, n);
            h.keep(0, 0);
            h.addProduct(1, d.x, t);
            h.addProduct(-1, u.y, e);
            c.v.y.quotient(h, n);
        }

        /** How a line carries c aside: vFrom x line - (c - from) x (vTo - vFrom); the line itself comes too. */
        private void drift(Box out, Pair line, Joint c, Joint from, Joint to) {
            line.minus(to.at, from.at);
            f.minus(to.v, from.v);
            g.minus(c.at, from.at);
            h.cross(g, f);
            out.cross(from.v, line);
            out.minus(out, h);
        }

        private void speedCross(Joint c) {
            drift(e, d, c, joints[c.on[0]], joints[c.on[1]]);
            drift(t, u, c, joints[c.on[2]], joints[c.on[3]]);
            n.cross(d, u);
            h.keep(0, 0);
            h.addProduct(1, d.x, t);
            h.addProduct(-1, u.x, e);
            c.v.x.quotient(h, n);
            h.keep(0, 0);
            h.addProduct(1, d.y, t);
            h.addProduct(-1, u.y, e);
            c.v.y.quotient(h, n);
        }

        Pair poleOf(int p, int q) {
            e.dot(joints[p].at, joints[p].v);
            t.dot(joints[q].at, joints[q].v);
            meet(g, joints[p].v, joints[q].v);
            return g;
        }

        void reckonMoment() {
            most.keep(0, 0);
            for (int p = 0; p < size; p++) {
                Joint c = joints[p];
                if (c.fx != 0 || c.fy != 0) {
                    e.keep(0, 0);
                    e.addWhole(c.fx, c.v.x);
                    e.addWhole(c.fy, c.v.y);
                    most.plus(most, e);
                }
            }
            most.negative(most);
        }

        int massInAll() {
            int sum = 0;
            for (int p = 0; p < size; p++) {
                sum += joints[p].mass;
            }
            return sum;
        }

        void reckonMiddle(int axis) {
            most.keep(0, 0);
            for (int p = 0; p < size; p++) {
                Joint c = joints[p];
                if (c.mass != 0) {
                    most.addWhole(c.mass, axis == 0 ? c.at.x : c.at.y);
                }
            }
            most.shareAmong(massInAll());
        }
    }

    /** GEARS on SHAFTS, their MESHES, and trains found. */
    private static final class Gearing {
        static final int SHAFTS = 12;
        static final int MOST_GEARS = 24;
        static final int MOST_MESHES = 20;
        static final int HELD = 1;
        static final int TOLD = 2;
        static final int FITS = 1;
        static final int FITS_NOT = 2;
        static final int TOO_LARGE = 3;
        private static final int MOST_ROWS = MOST_MESHES + SHAFTS;
        private static final int MOST_KEPT = 300;
        private static final long MILLION = 1000000;
        // The square of the sine of 20 degrees, in millionths.
        private static final long SINE = 116978;

        int gears;
        int meshes;
        int kept;
        private final int[] teeth;
        final int[] shaftOf;
        private final int[] pairs;
        private final int[] states;
        private final int[] toldTops;
        private final int[] toldBottoms;
        final int[] keptTrains;
        private final long[][] tops;
        private final long[][] bottoms;
        private final int[] pivots;
        private int rows;
        private int result;
        private final Fraction factor;
        private final Fraction share;
        private final Fraction cell;

        Gearing() {
            teeth = new int[MOST_GEARS];
            shaftOf = new int[MOST_GEARS];
            pairs = new int[4 * MOST_MESHES];
            states = new int[SHAFTS];
            toldTops = new int[SHAFTS];
            toldBottoms = new int[SHAFTS];
            keptTrains = new int[4 * MOST_KEPT];
            tops = new long[MOST_ROWS][SHAFTS + 1];
            bottoms = new long[MOST_ROWS][SHAFTS + 1];
            pivots = new int[SHAFTS];
            factor = new Fraction();
            share = new Fraction();
            cell = new Fraction();
        }

        int addGear(int count, int shaft) {
            if (gears >= MOST_GEARS) {
                return -1;
            }
            teeth[gears] = count;
            shaftOf[gears] = shaft;
            gears++;
            return gears - 1;
        }

        int addMesh(int a, int b, boolean inner, int arm) {
            if (meshes >= MOST_MESHES) {
                return -1;
            }
            int at = 4 * meshes;
            pairs[at] = a;
            pairs[at + 1] = b;
            pairs[at + 2] = inner ? -1 : 1;
            pairs[at + 3] = arm;
            meshes++;
            result = 0;
            return meshes - 1;
        }

        void setShaft(int s, int how, int p, int q) {
            states[s] = how;
            toldTops[s] = p;
            toldBottoms[s] = q;
            result = 0;
        }

        void forget() {
            gears = 0;
            meshes = 0;
            result = 0;
            Arrays.fill(states, 0);
        }

        /** What solving comes to; worked out again only behind a change. */
        int outcome() {
            if (result == 0) {
                writeRows();
                if (!isReduced()) {
                    result = TOO_LARGE;
                } else {
                    result = contradicts() ? FITS_NOT : FITS;
                }
            }
            return result;
        }

        private void writeRows() {
            rows = 0;
            for (int m = 0; m < meshes; m++) {
                emptyRow();
                writeMesh(4 * m);
                rows++;
            }
            for (int s = 0; s < SHAFTS; s++) {
                if (states[s] != 0) {
                    emptyRow();
                    tops[rows][s] = 1;
                    if (states[s] == TOLD) {
                        cell.set(toldTops[s], toldBottoms[s]);
                        writeCell(rows, SHAFTS);
                    }
                    rows++;
                }
            }
        }

        private void emptyRow() {
            Arrays.fill(tops[rows], 0);
            Arrays.fill(bottoms[rows], 1);
        }

        private void writeMesh(int at) {
            long za = teeth[pairs[at]];
            long zb = (long) pairs[at + 2] * teeth[pairs[at + 1]];
            tops[rows][shaftOf[pairs[at]]] += za;
            tops[rows][shaftOf[pairs[at + 1]]] += zb;
            if (pairs[at + 3] >= 0) {
                tops[rows][pairs[at + 3]] -= za + zb;
            }
        }

        private void readCell(Fraction into, int row, int column) {
            into.p = tops[row][column];
            into.q = bottoms[row][column];
            into.large = false;
        }

        private void writeCell(int row, int column) {
            tops[row][column] = cell.p;
            bottoms[row][column] = cell.q;
        }

        /** Whether all rows could be worked out without anything TOO LARGE. */
        private boolean isReduced() {
            Arrays.fill(pivots, -1);
            int present = 0;
            for (int s = 0; s < SHAFTS && present < rows; s++) {
                int chosen = firstWith(s, present);
                if (chosen >= 0) {
                    changePlaces(chosen, present);
                    if (!isDivided(present, s)) {
                        return false;
                    }
                    for (int r = 0; r < rows; r++) {
                        if (r != present && tops[r][s] != 0 && !isTaken(r, present, s)) {
                            return false;
                        }
                    }
                    pivots[s] = present;
                    present++;
                }
            }
            return true;
        }

        private int firstWith(int s, int from) {
            for (int r = from; r < rows; r++) {
                if (tops[r][s] != 0) {
                    return r;
                }
            }
            return -1;
        }

        private void changePlaces(int r, int s) {
            long[] row = tops[r];
            tops[r] = tops[s];
            tops[s] = row;
            row = bottoms[r];
            bottoms[r] = bottoms[s];
            bottoms[s] = row;
        }

        private boolean isDivided(int row, int s) {
            long over = tops[row][s] < 0 ? -bottoms[row][s] : bottoms[row][s];
            long under = Math.abs(tops[row][s]);
            for (int c = 0; c <= SHAFTS; c++) {
                readCell(cell, row, c);
                cell.times(over, under);
                if (cell.large) {
                    return false;
                }
                writeCell(row, c);
            }
            return true;
        }

        private boolean isTaken(int row, int present, int s) {
            readCell(factor, row, s);
            for (int c = 0; c <= SHAFTS; c++) {
                if (tops[present][c] != 0) {
                    share.copy(factor);
                    share.times(tops[present][c], bottoms[present][c]);
                    readCell(cell, row, c);
                    cell.add(-share.p, share.q);
                    if (share.large || cell.large) {
                        return false;
                    }
                    writeCell(row, c);
                }
            }
            return true;
        }

        private boolean contradicts() {
            for (int r = 0; r < rows; r++) {
                if (tops[r][SHAFTS] != 0 && othersAreZero(r, -1)) {
                    return true;
                }
            }
            return false;
        }

        private boolean othersAreZero(int row, int but) {
            for (int s = 0; s < SHAFTS; s++) {
                if (s != but && tops[row][s] != 0) {
                    return false;
                }
            }
            return true;
        }

        boolean isKnown(int s, Fraction into) {
            int row = pivots[s];
            if (row < 0 || !othersAreZero(row, s)) {
                return false;
            }
            readCell(into, row, SHAFTS);
            return true;
        }

        int clash(int a, int b, boolean inner) {
            long z = Math.min(teeth[a], teeth[b]);
            long y = Math.max(teeth[a], teeth[b]);
            boolean undercut = z * SINE < 2 * MILLION;
            if (inner) {
                if (undercut) {
                    return 1;
                }
                return y - z < 8 ? 2 : 0;
            }
            if (!undercut) {
                return 0;
            }
            return y * (4 * MILLION - 2 * z * SINE) > z * z * SINE - 4 * MILLION ? 2 : 1;
        }

        int findTrains(int p, int q, int low, int high) {
            int all = 0;
            kept = 0;
            for (int a = low; a <= high && p > 0; a++) {
                for (int c = a; c <= high; c++) {
                    int product = a * c * q;
                    if (product % p == 0) {
                        all += findDrivers(a, c, product / p, low, high);
                    }
                }
            }
            return all;
        }

        /** How many b, d there are with the product m; the trains are kept as long as there is room. */
        private int findDrivers(int a, int c, int m, int low, int high) {
            int many = 0;
            if (high <= 0 || m > high * high) {
                return 0;
            }
            // A lesser b would ask for a d above the highest.
            int from = Math.max(low, (m + high - 1) / high);
            for (int b = from; b <= high && b > 0 && b * b <= m; b++) {
                if (m % b == 0) {
                    many++;
                    keepTrain(a, b, c, m / b);
                }
            }
            return many;
        }

        private void keepTrain(int a, int b, int c, int d) {
            if (kept >= MOST_KEPT) {
                return;
            }
            int at = 4 * kept;
            keptTrains[at] = a;
            keptTrains[at + 1] = b;
            keptTrains[at + 2] = c;
            keptTrains[at + 3] = d;
            kept++;
        }
    }

    /** A cam: rises, falls and dwells round the circle. */
    private static final class Cam {
        private static final int MOST_STATEMENTS = 30;
        private static final int DWELL = 0;
        private static final int RISE = 1;
        private static final String GRAMMAR = "dwell w;rise wrl;fall wrl;";
        // How much steeper than L / W a law gets, by the law.
        private static final int[] STEEP_TOPS = {0, 1, 2, 15, 35};
        private static final int[] STEEP_BOTTOMS = {1, 1, 1, 8, 16};

        int size;
        private final int[] widths;
        private final int[] signs;
        private final int[] laws;
        private final long[] tops;
        private final long[] bottoms;
        private final Fraction t;
        private final Fraction y;

        Cam() {
            widths = new int[MOST_STATEMENTS];
            signs = new int[MOST_STATEMENTS];
            laws = new int[MOST_STATEMENTS];
            tops = new long[MOST_STATEMENTS];
            bottoms = new long[MOST_STATEMENTS];
            t = new Fraction();
            y = new Fraction();
        }

        /** Becomes what INPUT tells; false at a FAULT, and what it is then is of no use. */
        boolean isRead(Text text) {
            size = 0;
            boolean going = text.isGrammatical(GRAMMAR);
            for (int k = 0; k < Text.MOST_BYTES && going; k++) {
                going = text.hasStatement(GRAMMAR) && isTaken(text, k);
            }
            if (text.fault == 0) {
                checkSums(text);
            }
            return text.fault == 0;
        }

        private boolean isTaken(Text text, int k) {
            if (k >= MOST_STATEMENTS) {
                text.note(6, text.begin);
                return false;
            }
            for (int part = 0; part < text.used; part++) {
                if (!text.isInRange(part)) {
                    text.note(5, text.starts[part]);
                    return false;
                }
            }
            widths[k] = text.whole(0);
            signs[k] = 0;
            laws[k] = 0;
            if (text.form != DWELL) {
                signs[k] = text.form == RISE ? 1 : -1;
                laws[k] = text.whole(2);
                t.set(text.tops[1], text.bottoms[1]);
                tops[k] = t.p;
                bottoms[k] = t.q;
            }
            size = k + 1;
            return true;
        }

        private void checkSums(Text text) {
            int degrees = 0;
            y.set(0, 1);
            for (int k = 0; k < size; k++) {
                degrees += widths[k];
                addWhole(k, y);
            }
            if (degrees != 360) {
                text.note(7, text.length);
            } else if (y.large || y.p != 0) {
                text.note(8, text.length);
            }
        }

        private void addWhole(int k, Fraction sum) {
            if (signs[k] != 0) {
                sum.add(signs[k] * tops[k], bottoms[k]);
            }
        }

        /** The lift at p / q degrees. */
        void reckonLift(long p, long q, Fraction sum) {
            long begin = 0;
            sum.set(0, 1);
            for (int k = 0; k < size; k++) {
                if (p < (begin + widths[k]) * q) {
                    addPart(k, p - begin * q, q, sum);
                    return;
                }
                addWhole(k, sum);
                begin += widths[k];
            }
        }

        /** Adds the lift of statement k, p / q degrees behind its beginning. */
        private void addPart(int k, long p, long q, Fraction sum) {
            if (signs[k] == 0) {
                return;
            }
            t.set(p, q);
            t.times(1, widths[k]);
            switch (laws[k]) {
                case 2: reckonParabola(); break;
                case 3: reckonFifth(); break;
                case 4: reckonSeventh(); break;
                default: y.copy(t); break;
            }
            y.times(tops[k], bottoms[k]);
            sum.add(signs[k] * y.p, y.q);
            if (y.large) {
                sum.large = true;
            }
        }

        private void reckonParabola() {
            boolean late = 2 * t.p > t.q;
            if (late) {
                t.p = -t.p;
                t.add(1, 1);
            }
            y.set(2, 1);
            climb(2);
            if (late) {
                y.p = -y.p;
                y.add(1, 1);
            }
        }

        private void reckonFifth() {
            y.set(6, 1);
            climb(1);
            y.add(-15, 1);
            climb(1);
            y.add(10, 1);
            climb(3);
        }

        private void reckonSeventh() {
            y.set(-20, 1);
            climb(1);
            y.add(70, 1);
            climb(1);
            y.add(-84, 1);
            climb(1);
            y.add(35, 1);
            climb(4);
        }

        private void climb(int often) {
            for (int k = 0; k < often; k++) {
                y.times(t.p, t.q);
            }
        }

        /**
         * SMOOTH. As the cam comes back to 0, a row of law 1 with one slope can't go all round it: where there
         * is a law 1, the slope jumps somewhere. A law 2 has a jump of its bend in its own middle.
         */
        int smoothness() {
            int smooth = 2;
            for (int k = 0; k < size; k++) {
                if (laws[k] == 1) {
                    smooth = 0;
                } else if (laws[k] == 2 && smooth == 2) {
                    smooth = 1;
                }
            }
            return smooth;
        }

        void findSteepest(Fraction best) {
            best.set(0, 1);
            for (int k = 0; k < size; k++) {
                if (signs[k] != 0) {
                    t.set(tops[k] * STEEP_TOPS[laws[k]], bottoms[k] * widths[k] * STEEP_BOTTOMS[laws[k]]);
                    if (t.isAbove(best.p, best.q)) {
                        best.copy(t);
                    }
                }
            }
        }
    }

    /** A plate: corners with whole coordinates. */
    private static final class Plate {
        static final int MOST_CORNERS = 24;
        private static final int SECOND_MOMENT = 2;

        int size;
        private final long[] xs;
        private final long[] ys;

        Plate() {
            xs = new long[MOST_CORNERS];
            ys = new long[MOST_CORNERS];
        }

        int addCorner(int x, int y) {
            if (size < MOST_CORNERS) {
                xs[size] = x;
                ys[size] = y;
                size++;
            }
            return size;
        }

        private int after(int k) {
            return k + 1 < size ? k + 1 : 0;
        }

        private long crossAt(int k) {
            int l = after(k);
            return xs[k] * ys[l] - xs[l] * ys[k];
        }

        long twiceArea() {
            long sum = 0;
            for (int k = 0; k < size; k++) {
                sum += crossAt(k);
            }
            return sum;
        }

        /** 0 the middle's x, 1 its y, 2 the second moment. */
        void reckon(int which, Fraction into) {
            long sum = 0;
            for (int k = 0; k < size; k++) {
                sum += crossAt(k) * weightAt(k, which);
            }
            into.set(sum, which == SECOND_MOMENT ? 12 : 3 * twiceArea());
        }

        private long weightAt(int k, int which) {
            int l = after(k);
            if (which == 0) {
                return xs[k] + xs[l];
            }
            if (which == 1) {
                return ys[k] + ys[l];
            }
            return xs[k] * xs[k] + xs[k] * xs[l] + xs[l] * xs[l]
                    + ys[k] * ys[k] + ys[k] * ys[l] + ys[l] * ys[l];
        }

        /** CROSSED's i (or j), -1 if no edges cross. */
        int crossing(boolean first) {
            for (int i = 0; i < size; i++) {
                for (int j = i + 2; j < size; j++) {
                    boolean neighbours = i == 0 && j == size - 1;
                    if (!neighbours && touches(i, this, j)) {
                        return first ? i : j;
                    }
                }
            }
            return -1;
        }

        /** On which side of edge i a point is: 0 if it is on its line. */
        private long sideOf(int i, long x, long y) {
            int l = after(i);
            return (xs[l] - xs[i]) * (y - ys[i]) - (ys[l] - ys[i]) * (x - xs[i]);
        }

        private boolean holds(int i, long x, long y) {
            int l = after(i);
            return sideOf(i, x, y) == 0
                    && Math.min(xs[i], xs[l]) <= x && x <= Math.max(xs[i], xs[l])
                    && Math.min(ys[i], ys[l]) <= y && y <= Math.max(ys[i], ys[l]);
        }

        private boolean parts(int i, Plate other, int j) {
            int l = other.after(j);
            long a = sideOf(i, other.xs[j], other.ys[j]);
            long b = sideOf(i, other.xs[l], other.ys[l]);
            return a < 0 && b > 0 || a > 0 && b < 0;
        }

        /** Whether edge i and the other's edge j have a point in common. */
        private boolean touches(int i, Plate other, int j) {
            if (parts(i, other, j) && other.parts(j, this, i)) {
                return true;
            }
            int k = after(i);
            int l = other.after(j);
            return holds(i, other.xs[j], other.ys[j]) || holds(i, other.xs[l], other.ys[l])
                    || other.holds(j, xs[i], ys[i]) || other.holds(j, xs[k], ys[k]);
        }

        /** INSIDE. */
        int standing(long x, long y) {
            int turns = 0;
            for (int i = 0; i < size; i++) {
                if (holds(i, x, y)) {
                    return 2;
                }
                boolean begins = ys[i] <= y;
                boolean ends = ys[after(i)] <= y;
                if (begins && !ends && sideOf(i, x, y) > 0) {
                    turns++;
                } else if (!begins && ends && sideOf(i, x, y) < 0) {
                    turns--;
                }
            }
            return turns != 0 ? 1 : 0;
        }

        /** The squared DISTANCE to another plate. */
        void reckonGap(Plate other, Fraction best) {
            if (isInReach(other)) {
                best.set(0, 1);
                return;
            }
            long dx = other.xs[0] - xs[0];
            long dy = other.ys[0] - ys[0];
            best.set(dx * dx + dy * dy, 1);
            for (int i = 0; i < size; i++) {
                for (int j = 0; j < other.size; j++) {
                    offerFoot(i, other.xs[j], other.ys[j], best);
                    other.offerFoot(j, xs[i], ys[i], best);
                }
            }
        }

        private boolean isInReach(Plate other) {
            for (int i = 0; i < size; i++) {
                for (int j = 0; j < other.size; j++) {
                    if (touches(i, other, j)) {
                        return true;
                    }
                }
            }
            // Where no edges meet, all corners of a plate stand on the same side of the other one.
            return standing(other.xs[0], other.ys[0]) != 0 || other.standing(xs[0], ys[0]) != 0;
        }

        private void offerFoot(int i, long x, long y, Fraction best) {
            int l = after(i);
            long ex = xs[l] - xs[i];
            long ey = ys[l] - ys[i];
            long px = x - xs[i];
            long py = y - ys[i];
            long along = px * ex + py * ey;
            long whole = ex * ex + ey * ey;
            long aside = px * ey - py * ex;
            if (along <= 0) {
                offer(px * px + py * py, 1, best);
            } else if (along >= whole) {
                offer((px - ex) * (px - ex) + (py - ey) * (py - ey), 1, best);
            } else {
                offer(aside * aside, whole, best);
            }
        }

        private static void offer(long p, long q, Fraction best) {
            if (best.isAbove(p, q)) {
                best.set(p, q);
            }
        }
    }

    /** The kinds of chains, as graphs. */
    private static final class Kinds {
        static final int MOST_LINKS = 6;
        // All graphs with six corners, whatever they are like, are of 156 kinds.
        private static final int MOST_KINDS = 156;
        private static final int MOST_CODES = 1 << 15;

        int size;
        final int[] codes;
        private int links;
        private int pairs;
        private final int[] firsts;
        private final int[] seconds;
        private final int[] bits;
        private final int[] joined;
        private final int[] sequence;
        private final int[] seen;

        Kinds() {
            codes = new int[MOST_KINDS];
            firsts = new int[15];
            seconds = new int[15];
            bits = new int[MOST_LINKS * MOST_LINKS];
            joined = new int[MOST_LINKS];
            sequence = new int[MOST_LINKS];
            seen = new int[MOST_CODES / 32];
        }

        void listAll(int n, int j) {
            size = 0;
            links = n;
            numberPairs();
            Arrays.fill(seen, 0);
            // Codes fall, so the first one of a kind is its greatest.
            for (int code = (1 << pairs) - 1; code >= 0; code--) {
                if (Integer.bitCount(code) == j && !isSeen(code) && isChain(code) && size < MOST_KINDS) {
                    codes[size] = code;
                    size++;
                    seeAllLike(code);
                }
            }
        }

        private void numberPairs() {
            pairs = links * (links - 1) / 2;
            int bit = pairs - 1;
            for (int a = 0; a < links; a++) {
                for (int b = a + 1; b < links; b++) {
                    firsts[bit] = a;
                    seconds[bit] = b;
                    bits[a * MOST_LINKS + b] = 1 << bit;
                    bits[b * MOST_LINKS + a] = 1 << bit;
                    bit--;
                }
            }
        }

        private boolean isSeen(int code) {
            return (seen[code >> 5] >> (code & 31) & 1) == 1;
        }

        private boolean isChain(int code) {
            Arrays.fill(joined, 0);
            for (int bit = 0; bit < pairs; bit++) {
                if ((code >> bit & 1) == 1) {
                    joined[firsts[bit]] |= 1 << seconds[bit];
                    joined[seconds[bit]] |= 1 << firsts[bit];
                }
            }
            for (int a = 0; a < links; a++) {
                if (Integer.bitCount(joined[a]) < 2) {
                    return false;
                }
            }
            return isInOnePiece() && !hasStiffPart();
        }

        private boolean isInOnePiece() {
            int reached = 1;
            for (int round = 0; round < links; round++) {
                for (int a = 0; a < links; a++) {
                    if ((reached >> a & 1) == 1) {
                        reached |= joined[a];
                    }
                }
            }
            return reached == (1 << links) - 1;
        }

        private boolean hasStiffPart() {
            for (int part = 1; part < (1 << links) - 1; part++) {
                int twice = 0;
                for (int a = 0; a < links; a++) {
                    if ((part >> a & 1) == 1) {
                        twice += Integer.bitCount(joined[a] & part);
                    }
                }
                int k = Integer.bitCount(part);
                if (k >= 2 && twice > 3 * k - 3) {
                    return true;
                }
            }
            return false;
        }

        /** Marks the codes of all graphs that are this one with its links numbered otherwise. */
        private void seeAllLike(int code) {
            int all = 1;
            for (int k = 2; k <= links; k++) {
                all *= k;
            }
            for (int number = 0; number < all; number++) {
                writeSequence(number);
                int other = renumbered(code);
                seen[other >> 5] |= 1 << (other & 31);
            }
        }

        /** The sequence of the links with a number, out of all their sequences. */
        private void writeSequence(int number) {
            int rest = number;
            for (int k = 0; k < links; k++) {
                sequence[k] = k;
            }
            for (int k = 1; k < links; k++) {
                int other = rest % (k + 1);
                rest /= k + 1;
                int link = sequence[k];
                sequence[k] = sequence[other];
                sequence[other] = link;
            }
        }

        private int renumbered(int code) {
            int other = 0;
            for (int bit = 0; bit < pairs; bit++) {
                if ((code >> bit & 1) == 1) {
                    other |= bits[sequence[firsts[bit]] * MOST_LINKS + sequence[seconds[bit]]];
                }
            }
            return other;
        }
    }

    /** A drive: a program that moves INPUTS. */
    private static final class Drive {
        private static final int MOST_STATEMENTS = 40;
        private static final int MOST_STEPS = 2000;
        private static final int MOST_KEPT = 100;
        // Each statement is done at most ten times, and each again is met as often.
        private static final int MOST_DEEDS = 1000;
        private static final int DONE = 0;
        private static final int BARRED = 1;
        private static final int TIRED = 2;
        private static final int UNTIL = 1;
        private static final int AGAIN = 2;
        private static final int WAY = 3;
        private static final String GRAMMAR = "turn it;until itPDv;again a;way b;";

        int steps;
        int events;
        final int[] kept;
        private int size;
        private int chosen;
        private final int[] forms;
        private final int[] inputs;
        private final int[] amounts;
        private final int[] points;
        private final boolean[] upright;
        private final long[] limits;

        Drive() {
            kept = new int[3 * MOST_KEPT];
            forms = new int[MOST_STATEMENTS];
            inputs = new int[MOST_STATEMENTS];
            amounts = new int[MOST_STATEMENTS];
            points = new int[MOST_STATEMENTS];
            upright = new boolean[MOST_STATEMENTS];
            limits = new long[MOST_STATEMENTS];
        }

        int keptEvents() {
            return Math.min(events, MOST_KEPT);
        }

        /** Reads INPUT; false at a FAULT. What the latest run left stays here. */
        boolean isRead(Text text, Linkage linkage) {
            size = 0;
            boolean going = text.isGrammatical(GRAMMAR);
            for (int k = 0; k < Text.MOST_BYTES && going; k++) {
                going = text.hasStatement(GRAMMAR) && isTaken(text, linkage, k);
            }
            return text.fault == 0;
        }

        private boolean isTaken(Text text, Linkage linkage, int k) {
            if (k >= MOST_STATEMENTS) {
                text.note(6, text.begin);
                return false;
            }
            for (int part = 0; part < text.used; part++) {
                if (text.letters[part] == 'P' && linkage.numberOf(text.names[part]) < 0) {
                    text.note(3, text.starts[part]);
                } else if (!text.isInRange(part)) {
                    text.note(5, text.starts[part]);
                }
            }
            if (text.fault != 0) {
                return false;
            }
            forms[k] = text.form;
            if (text.form == AGAIN || text.form == WAY) {
                amounts[k] = text.whole(0);
            } else {
                inputs[k] = text.whole(0);
                amounts[k] = text.whole(1);
            }
            if (text.form == UNTIL) {
                takeGoal(text, linkage, k);
            }
            size = k + 1;
            return true;
        }

        private void takeGoal(Text text, Linkage linkage, int k) {
            points[k] = linkage.numberOf(text.names[2]);
            upright[k] = text.tops[3] == '-';
            if (text.bottoms[4] > 0) {
                limits[k] = Math.floorDiv(Box.ONE * text.tops[4], (long) text.bottoms[4]);
            }
        }

        int run(Linkage linkage) {
            steps = 0;
            events = 0;
            chosen = 0;
            int outcome = DONE;
            int first = 0;
            int left = -1;
            int k = 0;
            for (int deed = 0; deed < MOST_DEEDS && k < size && outcome == DONE; deed++) {
                if (forms[k] != AGAIN) {
                    outcome = move(linkage, k);
                    k++;
                    continue;
                }
                left = left < 0 ? amounts[k] : left;
                if (left > 0) {
                    left--;
                    k = first;
                } else {
                    left = -1;
                    k++;
                    first = k;
                }
            }
            return outcome;
        }

        private int move(Linkage linkage, int k) {
            if (forms[k] == WAY) {
                chosen = amounts[k];
                return DONE;
            }
            int i = inputs[k];
            int one = amounts[k] < 0 ? -1 : 1;
            for (int s = 0; s < Math.abs(amounts[k]); s++) {
                boolean watched = forms[k] == UNTIL && linkage.look(chosen, true) == Linkage.SURE;
                if (watched && isReached(linkage.joints[points[k]].at, k)) {
                    break;
                }
                if (steps >= MOST_STEPS) {
                    return TIRED;
                }
                steps++;
                int stood = linkage.places[i];
                linkage.moveTo(i, stood + one & Linkage.CIRCLE - 1);
                if (linkage.look(chosen, true) != Linkage.SURE) {
                    linkage.moveTo(i, stood);
                    return BARRED;
                }
            }
            keepEvent(k, i, linkage.places[i]);
            return DONE;
        }

        private boolean isReached(Pair at, int k) {
            return (upright[k] ? at.y.lo : at.x.lo) > limits[k];
        }

        private void keepEvent(int k, int i, int place) {
            if (events < MOST_KEPT) {
                kept[3 * events] = k;
                kept[3 * events + 1] = i;
                kept[3 * events + 2] = place;
            }
            events++;
        }
    }
}
