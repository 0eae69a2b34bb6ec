import java.util.ArrayList;
import java.util.Arrays;

/**
 * A land register: lots that tile a district, the deeds that change them, and questions as of any
 * day and any entry. The numbered promises of the document say what each call does.
 */
public final class LandBook {
    public static final int NONE = 0;

    private static final int MOST_COORDINATE = 20000;
    private static final int MOST_POINTS = 32;
    private static final int MOST_DAY = 30000;
    private static final int MOST_DEEDS = 600;
    private static final int MOST_LOTS = 300;
    private static final int MOST_EASEMENTS = 200;
    private static final int MOST_CORNERS = 60;
    private static final int MOST_WORDS = 12000;
    private static final int MOST_MOUNTS = 40;

    private static final int PERSONS = 100;
    private static final int PARTS = 5040;

    private static final int GONE = -1;
    private static final int LATE = -2;
    private static final int UNFIT = -3;
    private static final int FULL = -4;

    private static final int SPLIT = 1;
    private static final int MERGE = 2;
    private static final int TRANSFER = 3;
    private static final int EASE = 4;
    private static final int RELEASE = 5;

    /** What a word of the log multiplies its upper half by: two lots, or a kind and a length. */
    private static final int UPPER = 65536;

    private final Points row = new Points(MOST_POINTS);
    private final Points chain = new Points(MOST_POINTS);
    private final Cutter cutter = new Cutter();
    private final Joiner joiner = new Joiner();
    private final Register register = new Register();
    private final Log log = new Log();
    private boolean down;
    private int mounts;

    public LandBook() {
    }

    public int point(int x, int y) throws IllegalArgumentException, UnsupportedOperationException {
        checkPoint(x, y);
        if (row.size >= MOST_POINTS) {
            throw new UnsupportedOperationException("the row is full");
        }
        row.add(Plane.pack(x, y));
        return row.size;
    }

    public boolean open() throws IllegalStateException {
        takeRow();
        if (register.lotCount() > 0) {
            throw new IllegalStateException("there is a district");
        }
        if (chain.size < 3 || !Rings.isSimple(chain, true)) {
            return false;
        }
        Points kept = new Points(MOST_POINTS);
        Rings.keep(chain, kept);
        register.found(kept);
        return true;
    }

    public int split(int lot, int day)
            throws IllegalStateException, IndexOutOfBoundsException, IllegalArgumentException {
        takeRow();
        checkUp();
        checkLot(lot);
        checkDay(day);
        int[] names = {lot};
        int objection = register.objection(names, day);
        if (objection != 0) {
            return objection;
        }
        if (!cutter.cut(register.lot(lot).ring, chain)) {
            return UNFIT;
        }
        int[] text = new int[1 + chain.size];
        text[0] = lot;
        for (int i = 0; i < chain.size; i++) {
            text[1 + i] = chain.at(i);
        }
        Points[] rings = {cutter.first, cutter.second};
        if (isFull(rings.length, 0, text) || haveTooManyCorners(rings)) {
            return FULL;
        }
        enter(new Deed(SPLIT, day, names), text);
        return register.replaceLots(rings);
    }

    public int merge(int a, int b, int day)
            throws IllegalStateException, IndexOutOfBoundsException, IllegalArgumentException {
        checkUp();
        checkLot(a);
        checkLot(b);
        checkDay(day);
        int[] names = {a, b};
        int objection = register.objection(names, day);
        if (objection != 0) {
            return objection;
        }
        if (a == b || !joiner.join(register.lot(a).ring, register.lot(b).ring)
                || !register.haveEqualShares(a, b, day)) {
            return UNFIT;
        }
        int[] text = {a * UPPER + b};
        Points[] rings = {joiner.joined};
        if (isFull(rings.length, 0, text) || haveTooManyCorners(rings)) {
            return FULL;
        }
        enter(new Deed(MERGE, day, names), text);
        return register.replaceLots(rings);
    }

    public int transfer(int lot, int from, int to, int num, int den, int day)
            throws IllegalStateException, IndexOutOfBoundsException, IllegalArgumentException {
        checkUp();
        checkLot(lot);
        checkPerson(from);
        checkPerson(to);
        checkTerm(num);
        checkTerm(den);
        checkDay(day);
        int[] names = {lot};
        int objection = register.objection(names, day);
        if (objection != 0) {
            return objection;
        }
        int parts = PARTS / den * num;
        if (from == to || PARTS % den != 0
                || register.shareOf(lot, from, day, register.lastEntry()) < parts) {
            return UNFIT;
        }
        int[] text = {lot * 16384 + from * 128 + to, parts};
        if (isFull(0, 0, text)) {
            return FULL;
        }
        return enter(new Deed(TRANSFER, day, names, from, to, parts), text);
    }

    public int ease(int over, int other, int day)
            throws IllegalStateException, IndexOutOfBoundsException, IllegalArgumentException {
        checkUp();
        checkLot(over);
        checkLot(other);
        checkDay(day);
        int[] names = {over, other};
        int objection = register.objection(names, day);
        if (objection != 0) {
            return objection;
        }
        if (over == other) {
            return UNFIT;
        }
        int[] text = {over * UPPER + other};
        if (isFull(0, 1, text)) {
            return FULL;
        }
        enter(new Deed(EASE, day, names), text);
        return register.grant(over);
    }

    public int release(int easement, int day)
            throws IllegalStateException, IndexOutOfBoundsException, IllegalArgumentException {
        checkUp();
        if (easement < 1 || easement > register.easementCount()) {
            throw new IndexOutOfBoundsException("no such easement");
        }
        checkDay(day);
        if (!register.stands(easement, day, register.lastEntry())) {
            return GONE;
        }
        int[] names = register.lotsBurdened(easement, day);
        if (register.isLate(names, day)) {
            return LATE;
        }
        int[] text = {easement};
        if (isFull(0, 0, text)) {
            return FULL;
        }
        enter(new Deed(RELEASE, day, names), text);
        return register.endEasement(easement);
    }

    public int lotAt(int x, int y, int day, int entry)
            throws IllegalStateException, IllegalArgumentException {
        checkUp();
        checkPoint(x, y);
        checkAsOf(day, entry);
        for (int lot = 1; lot <= register.lotCount(); lot++) {
            if (register.isInBeing(lot, day, entry)
                    && Rings.where(register.lot(lot).ring, 2 * x, 2 * y) != Rings.OUTSIDE) {
                return lot;
            }
        }
        return NONE;
    }

    public int area2(int lot, int day, int entry)
            throws IllegalStateException, IndexOutOfBoundsException, IllegalArgumentException {
        checkUp();
        checkLot(lot);
        checkAsOf(day, entry);
        if (!register.isInBeing(lot, day, entry)) {
            return GONE;
        }
        return (int) Rings.twiceArea(register.lot(lot).ring);
    }

    public int share(int lot, int person, int day, int entry)
            throws IllegalStateException, IndexOutOfBoundsException, IllegalArgumentException {
        checkUp();
        checkLot(lot);
        checkPerson(person);
        checkAsOf(day, entry);
        if (!register.isInBeing(lot, day, entry)) {
            return GONE;
        }
        return register.shareOf(lot, person, day, entry);
    }

    public int next(int lot, int i, int day, int entry)
            throws IllegalStateException, IndexOutOfBoundsException, IllegalArgumentException {
        checkUp();
        checkLot(lot);
        checkPlace(i);
        checkAsOf(day, entry);
        if (!register.isInBeing(lot, day, entry)) {
            return GONE;
        }
        int before = 0;
        for (int other = 1; other <= register.lotCount(); other++) {
            if (other != lot && register.isInBeing(other, day, entry)
                    && Rings.haveLineInCommon(register.lot(lot).ring, register.lot(other).ring)) {
                if (before == i) {
                    return other;
                }
                before++;
            }
        }
        return NONE;
    }

    public int burden(int lot, int i, int day, int entry)
            throws IllegalStateException, IndexOutOfBoundsException, IllegalArgumentException {
        checkUp();
        checkLot(lot);
        checkPlace(i);
        checkAsOf(day, entry);
        if (!register.isInBeing(lot, day, entry)) {
            return GONE;
        }
        int before = 0;
        for (int easement = 1; easement <= register.easementCount(); easement++) {
            if (register.isBurdened(lot, easement, day, entry)) {
                if (before == i) {
                    return easement;
                }
                before++;
            }
        }
        return NONE;
    }

    public int parent(int lot, int i) throws IllegalStateException, IndexOutOfBoundsException {
        checkUp();
        checkLot(lot);
        checkRelative(i);
        return register.changedBy(register.lot(lot).began, true, i);
    }

    public int child(int lot, int i) throws IllegalStateException, IndexOutOfBoundsException {
        checkUp();
        checkLot(lot);
        checkRelative(i);
        return register.changedBy(register.lot(lot).ended, false, i);
    }

    public int corners(int lot) throws IllegalStateException, IndexOutOfBoundsException {
        checkUp();
        checkLot(lot);
        return register.lot(lot).ring.size;
    }

    public int corner(int lot, int k) throws IllegalStateException, IndexOutOfBoundsException {
        checkUp();
        checkLot(lot);
        Points ring = register.lot(lot).ring;
        if (k < 0 || k >= ring.size) {
            throw new IndexOutOfBoundsException("no such corner");
        }
        return ring.at(k);
    }

    public int many(int what) throws IndexOutOfBoundsException {
        switch (what) {
            case 0:
                return register.lotCount();
            case 1:
                return register.lastEntry();
            case 2:
                return register.easementCount();
            case 3:
                return log.size;
            case 4:
                return log.synced;
            default:
                throw new IndexOutOfBoundsException("nothing that is counted");
        }
    }

    public int word(int i) throws IndexOutOfBoundsException {
        if (i < 0 || i >= log.size) {
            throw new IndexOutOfBoundsException("no such word");
        }
        return log.at(i);
    }

    public int sync() throws IllegalStateException {
        checkUp();
        int fresh = log.size - log.synced;
        log.keep(log.size);
        return fresh;
    }

    public int crash(int k) throws IllegalStateException, IllegalArgumentException {
        checkUp();
        if (k < 0) {
            throw new IllegalArgumentException("a negative number of words");
        }
        log.tear(k);
        down = true;
        return log.size;
    }

    public int mount() throws IllegalStateException, UnsupportedOperationException {
        if (register.lotCount() == 0) {
            throw new IllegalStateException("there is no district");
        }
        if (mounts >= MOST_MOUNTS) {
            throw new UnsupportedOperationException("mounted too often");
        }
        mounts++;
        down = false;
        int place = 0;
        int whole = 0;
        while (place < log.size) {
            int length = log.recordLength(place);
            if (length <= 0) {
                break;
            }
            place += length;
            whole++;
        }
        log.keep(place);
        register.cutBack(whole);
        return register.lastEntry();
    }

    /** Empties the row before anything is checked, since it is empty even after a throw. */
    private void takeRow() {
        chain.clear();
        for (int i = 0; i < row.size; i++) {
            chain.add(row.at(i));
        }
        row.clear();
    }

    private void checkUp() {
        if (down || register.lotCount() == 0) {
            throw new IllegalStateException("no district, or it is down");
        }
    }

    private void checkLot(int lot) {
        if (lot < 1 || lot > register.lotCount()) {
            throw new IndexOutOfBoundsException("no such lot");
        }
    }

    private static void checkRelative(int i) {
        if (i != 0 && i != 1) {
            throw new IndexOutOfBoundsException("neither 0 nor 1");
        }
    }

    private static void checkPoint(int x, int y) {
        if (x < 0 || x > MOST_COORDINATE || y < 0 || y > MOST_COORDINATE) {
            throw new IllegalArgumentException("no point");
        }
    }

    private static void checkDay(int day) {
        if (day < 0 || day > MOST_DAY) {
            throw new IllegalArgumentException("no day");
        }
    }

    private static void checkAsOf(int day, int entry) {
        checkDay(day);
        if (entry < 0) {
            throw new IllegalArgumentException("a negative entry");
        }
    }

    private static void checkPerson(int person) {
        if (person < 0 || person >= PERSONS) {
            throw new IllegalArgumentException("no person");
        }
    }

    private static void checkTerm(int term) {
        if (term < 1 || term > PARTS) {
            throw new IllegalArgumentException("no term of a share");
        }
    }

    private static void checkPlace(int i) {
        if (i < 0) {
            throw new IllegalArgumentException("a negative place");
        }
    }

    private boolean isFull(int moreLots, int moreEasements, int[] text) {
        return register.lastEntry() >= MOST_DEEDS
                || register.lotCount() + moreLots > MOST_LOTS
                || register.easementCount() + moreEasements > MOST_EASEMENTS
                || log.size + Log.lengthOf(text) > MOST_WORDS;
    }

    private static boolean haveTooManyCorners(Points[] rings) {
        for (Points ring : rings) {
            if (ring.size > MOST_CORNERS) {
                return true;
            }
        }
        return false;
    }

    /** Accepts a deed: its entry. */
    private int enter(Deed deed, int[] text) {
        int entry = register.enter(deed);
        log.append(deed, entry, text);
        return entry;
    }

    /**
     * Points in a row, each packed into one number as the document's corners are. The order of
     * these numbers is the order of the points along any straight line.
     */
    private static final class Points {
        private final int[] items;
        int size;

        Points(int room) {
            items = new int[room];
        }

        void clear() {
            size = 0;
        }

        void add(int point) {
            if (size < items.length) {
                items[size] = point;
                size++;
            }
        }

        /** Counts round, since behind a ring's last corner comes its first. */
        int at(int i) {
            return size == 0 ? 0 : items[Math.floorMod(i, size)];
        }

        Points copy() {
            Points copy = new Points(size);
            for (int i = 0; i < size; i++) {
                copy.add(items[i]);
            }
            return copy;
        }
    }

    /** Points and sides. Coordinates are low enough that no product leaves an int. */
    private static final class Plane {
        static final int APART = 0;
        static final int MEET = 1;
        static final int OVERLAP = 2;

        private static final int SPAN = 32768;

        static int pack(int x, int y) {
            return x * SPAN + y;
        }

        static int xOf(int point) {
            return point / SPAN;
        }

        static int yOf(int point) {
            return point % SPAN;
        }

        /** 1 when the way from a by b to c turns left, -1 when it turns right, 0 on one line. */
        static int turn(int a, int b, int c) {
            return Integer.signum((xOf(b) - xOf(a)) * (yOf(c) - yOf(a))
                    - (yOf(b) - yOf(a)) * (xOf(c) - xOf(a)));
        }

        /** Whether a point lies on the side from a to b, its ends too. */
        static boolean lies(int point, int a, int b) {
            return point >= Math.min(a, b) && point <= Math.max(a, b) && turn(a, b, point) == 0;
        }

        /** What the sides from a to b and from c to d have in common: nothing, a point, a line. */
        static int meeting(int a, int b, int c, int d) {
            int low = Math.max(Math.min(a, b), Math.min(c, d));
            int high = Math.min(Math.max(a, b), Math.max(c, d));
            if (low > high) {
                return APART;
            }
            int turnToC = turn(a, b, c);
            int turnToD = turn(a, b, d);
            if (turnToC == 0 && turnToD == 0) {
                return low < high ? OVERLAP : MEET;
            }
            boolean crosses = turnToC * turnToD <= 0 && turn(c, d, a) * turn(c, d, b) <= 0;
            return crosses ? MEET : APART;
        }
    }

    /** What can be said of rings, and of chains. */
    private static final class Rings {
        static final int OUTSIDE = -1;
        static final int ON = 0;
        static final int WITHIN = 1;

        /** Whether no side has length 0, and sides meet only where neighbours do. */
        static boolean isSimple(Points line, boolean closed) {
            int sides = closed ? line.size : line.size - 1;
            for (int i = 0; i < sides; i++) {
                if (line.at(i) == line.at(i + 1)) {
                    return false;
                }
            }
            for (int i = 0; i < sides; i++) {
                for (int j = i + 1; j < sides; j++) {
                    boolean neighbours = j == i + 1 || closed && i == 0 && j == sides - 1;
                    int meeting = Plane.meeting(line.at(i), line.at(i + 1), line.at(j), line.at(j + 1));
                    if (meeting != (neighbours ? Plane.MEET : Plane.APART)) {
                        return false;
                    }
                }
            }
            return true;
        }

        /** Negative when the ring goes clockwise. */
        static long twiceArea(Points ring) {
            long sum = 0;
            for (int i = 0; i < ring.size; i++) {
                long x = Plane.xOf(ring.at(i));
                long y = Plane.yOf(ring.at(i));
                sum += x * Plane.yOf(ring.at(i + 1)) - y * Plane.xOf(ring.at(i + 1));
            }
            return sum;
        }

        /** Writes the ring as it is KEPT; its least corner is never one at which it goes straight on. */
        static void keep(Points ring, Points kept) {
            int least = 0;
            for (int i = 1; i < ring.size; i++) {
                if (ring.at(i) < ring.at(least)) {
                    least = i;
                }
            }
            int step = twiceArea(ring) > 0 ? 1 : -1;
            kept.clear();
            for (int k = 0; k < ring.size; k++) {
                int i = least + k * step;
                if (Plane.turn(ring.at(i - 1), ring.at(i), ring.at(i + 1)) != 0) {
                    kept.add(ring.at(i));
                }
            }
        }

        /** Takes doubled coordinates, so that the middle of a side can be asked for, too. */
        static int where(Points ring, int x2, int y2) {
            boolean within = false;
            for (int i = 0; i < ring.size; i++) {
                int ax = 2 * Plane.xOf(ring.at(i));
                int ay = 2 * Plane.yOf(ring.at(i));
                int bx = 2 * Plane.xOf(ring.at(i + 1));
                int by = 2 * Plane.yOf(ring.at(i + 1));
                long turn = (long) (bx - ax) * (y2 - ay) - (long) (by - ay) * (x2 - ax);
                if (turn == 0 && isBetween(ax, x2, bx) && isBetween(ay, y2, by)) {
                    return ON;
                }
                boolean goesUp = by > y2;
                if (goesUp != (ay > y2) && goesUp == (turn > 0)) {
                    within = !within;
                }
            }
            return within ? WITHIN : OUTSIDE;
        }

        private static boolean isBetween(int a, int value, int b) {
            return value >= Math.min(a, b) && value <= Math.max(a, b);
        }

        /** The side on which a point of the ring lies, not counting the side's end: -1 if on none. */
        static int sideOf(Points ring, int point) {
            for (int i = 0; i < ring.size; i++) {
                if (point != ring.at(i + 1) && Plane.lies(point, ring.at(i), ring.at(i + 1))) {
                    return i;
                }
            }
            return -1;
        }

        static boolean haveLineInCommon(Points a, Points b) {
            for (int i = 0; i < a.size; i++) {
                for (int j = 0; j < b.size; j++) {
                    if (Plane.meeting(a.at(i), a.at(i + 1), b.at(j), b.at(j + 1)) == Plane.OVERLAP) {
                        return true;
                    }
                }
            }
            return false;
        }
    }

    /** Cuts a ring in two along a chain. */
    private static final class Cutter {
        private static final int ROOM = MOST_CORNERS + MOST_POINTS;

        private final Points piece = new Points(ROOM);
        final Points first = new Points(ROOM);
        final Points second = new Points(ROOM);

        /** Whether the chain fits; first and second are the two rings then. */
        boolean cut(Points ring, Points chain) {
            if (!fits(ring, chain)) {
                return false;
            }
            int end = chain.size - 1;
            walk(ring, chain.at(0), chain.at(end));
            for (int i = end - 1; i > 0; i--) {
                piece.add(chain.at(i));
            }
            Rings.keep(piece, first);
            walk(ring, chain.at(end), chain.at(0));
            for (int i = 1; i < end; i++) {
                piece.add(chain.at(i));
            }
            Rings.keep(piece, second);
            return true;
        }

        private static boolean fits(Points ring, Points chain) {
            int end = chain.size - 1;
            if (end < 1 || chain.at(0) == chain.at(end)
                    || Rings.sideOf(ring, chain.at(0)) < 0 || Rings.sideOf(ring, chain.at(end)) < 0) {
                return false;
            }
            for (int i = 1; i < end; i++) {
                if (whereIsMiddle(ring, chain.at(i), chain.at(i)) != Rings.WITHIN) {
                    return false;
                }
            }
            // Behind the other tests only a chain of one side can still run outside.
            return Rings.isSimple(chain, false) && meetsOnlyAtEnds(ring, chain)
                    && whereIsMiddle(ring, chain.at(0), chain.at(1)) == Rings.WITHIN;
        }

        private static int whereIsMiddle(Points ring, int a, int b) {
            return Rings.where(ring, Plane.xOf(a) + Plane.xOf(b), Plane.yOf(a) + Plane.yOf(b));
        }

        private static boolean meetsOnlyAtEnds(Points ring, Points chain) {
            int end = chain.size - 1;
            for (int i = 0; i < end; i++) {
                for (int j = 0; j < ring.size; j++) {
                    int a = ring.at(j);
                    int b = ring.at(j + 1);
                    int meeting = Plane.meeting(chain.at(i), chain.at(i + 1), a, b);
                    boolean atEnd = i == 0 && Plane.lies(chain.at(0), a, b)
                            || i == end - 1 && Plane.lies(chain.at(end), a, b);
                    if (meeting == Plane.OVERLAP || meeting == Plane.MEET && !atEnd) {
                        return false;
                    }
                }
            }
            return true;
        }

        /** Makes the piece the part of the ring between two of its points, both included. */
        private void walk(Points ring, int from, int to) {
            int start = Rings.sideOf(ring, from);
            int steps = Rings.sideOf(ring, to) - start;
            boolean upward = ring.at(start) < ring.at(start + 1);
            if (steps < 0 || steps == 0 && upward != (from < to)) {
                steps += ring.size;
            }
            piece.clear();
            piece.add(from);
            for (int k = 1; k <= steps; k++) {
                if (ring.at(start + k) != to) {
                    piece.add(ring.at(start + k));
                }
            }
            piece.add(to);
        }
    }

    /**
     * Joins two rings along the line that they have in common. Each is first given the other's
     * corners that lie on it, so that they have whole sides in common, run in opposite directions.
     */
    private static final class Joiner {
        private static final int ROOM = 2 * MOST_CORNERS;

        private final Points left = new Points(ROOM);
        private final Points right = new Points(ROOM);
        private final int[] matches = new int[ROOM];
        private final Points outline = new Points(2 * ROOM);
        final Points joined = new Points(2 * ROOM);

        /** Whether just one unbroken line is common to both; joined is the ring of both then. */
        boolean join(Points a, Points b) {
            refine(a, b, left);
            refine(b, a, right);
            int commonCorners = matchCorners();
            int commonSides = 0;
            int lines = 0;
            int start = 0;
            for (int i = 0; i < left.size; i++) {
                if (isCommon(i)) {
                    commonSides++;
                    if (!isCommon(i - 1)) {
                        lines++;
                        start = i;
                    }
                }
            }
            if (lines != 1 || commonCorners != commonSides + 1) {
                return false;
            }
            outline.clear();
            for (int k = commonSides; k <= left.size; k++) {
                outline.add(left.at(start + k));
            }
            for (int k = 1; k < right.size - commonSides; k++) {
                outline.add(right.at(matches[start] + k));
            }
            Rings.keep(outline, joined);
            return true;
        }

        private static void refine(Points ring, Points other, Points refined) {
            refined.clear();
            for (int i = 0; i < ring.size; i++) {
                int to = ring.at(i + 1);
                int from = ring.at(i);
                for (int k = 0; k <= other.size && from != to; k++) {
                    refined.add(from);
                    from = nearest(other, from, to);
                }
            }
        }

        /** The ring's corner that comes first on the way between two points, or the way's end. */
        private static int nearest(Points ring, int from, int to) {
            int nearest = to;
            for (int i = 0; i < ring.size; i++) {
                int corner = ring.at(i);
                if (corner != from && Plane.lies(corner, from, nearest)) {
                    nearest = corner;
                }
            }
            return nearest;
        }

        /** Finds the left ring's corners in the right one: how many are in both. */
        private int matchCorners() {
            int found = 0;
            for (int i = 0; i < left.size; i++) {
                matches[i] = -1;
                for (int j = 0; j < right.size; j++) {
                    if (left.at(i) == right.at(j)) {
                        matches[i] = j;
                    }
                }
                if (matches[i] >= 0) {
                    found++;
                }
            }
            return found;
        }

        /** Whether a side of the left ring is one of the right one, too. */
        private boolean isCommon(int side) {
            int from = matches[Math.floorMod(side, left.size)];
            int to = matches[Math.floorMod(side + 1, left.size)];
            return from >= 0 && to >= 0 && from == (to + 1) % right.size;
        }
    }

    /** An accepted deed; its entry is its place in the register. */
    private static final class Deed {
        final int kind;
        final int day;
        final int[] names;
        final int from;
        final int to;
        final int parts;

        Deed(int kind, int day, int[] names) {
            this(kind, day, names, 0, 0, 0);
        }

        Deed(int kind, int day, int[] names, int from, int to, int parts) {
            this.kind = kind;
            this.day = day;
            this.names = names;
            this.from = from;
            this.to = to;
            this.parts = parts;
        }

        boolean namesOneOf(int[] lots) {
            for (int name : names) {
                for (int lot : lots) {
                    if (name == lot) {
                        return true;
                    }
                }
            }
            return false;
        }
    }

    /** A lot, with what it had when it began. */
    private static final class Lot {
        final Points ring;
        final int began;
        final int[] shares;
        private final boolean[] tookOver;
        int ended;

        Lot(Points ring, int began, int[] shares, boolean[] tookOver) {
            this.ring = ring;
            this.began = began;
            this.shares = shares;
            this.tookOver = tookOver;
        }

        boolean tookOver(int easement) {
            return easement < tookOver.length && tookOver[easement];
        }
    }

    private static final class Easement {
        final int over;
        final int granted;
        int released;

        Easement(int over, int granted) {
            this.over = over;
            this.granted = granted;
        }
    }

    /**
     * The deeds, and the lots and easements that they began and ended. These hold the entries of
     * such deeds, so that every state that ever was can be told, and later deeds can be cut off.
     */
    private static final class Register {
        private final ArrayList<Deed> deeds = new ArrayList<>();
        private final ArrayList<Lot> lots = new ArrayList<>();
        private final ArrayList<Easement> easements = new ArrayList<>();
        private final int[] shares = new int[PERSONS];
        private final int[] otherShares = new int[PERSONS];

        int lastEntry() {
            return deeds.size();
        }

        int lotCount() {
            return lots.size();
        }

        int easementCount() {
            return easements.size();
        }

        Lot lot(int number) {
            return lots.get(number - 1);
        }

        private Easement easement(int number) {
            return easements.get(number - 1);
        }

        private Deed deed(int entry) {
            return deeds.get(entry - 1);
        }

        void found(Points ring) {
            int[] all = new int[PERSONS];
            all[0] = PARTS;
            lots.add(new Lot(ring.copy(), 0, all, new boolean[0]));
        }

        /** No deed has entry 0: it stands where nothing began or ended. */
        private boolean isInForce(int deed, int day, int entry) {
            return deed > 0 && deed <= entry && deeds.get(deed - 1).day <= day;
        }

        boolean isInBeing(int lot, int day, int entry) {
            Lot it = lot(lot);
            return (it.began == 0 || isInForce(it.began, day, entry)) && !isInForce(it.ended, day, entry);
        }

        boolean stands(int easement, int day, int entry) {
            Easement it = easement(easement);
            return isInForce(it.granted, day, entry) && !isInForce(it.released, day, entry);
        }

        /** Of a lot that is in being then. */
        boolean isBurdened(int lot, int easement, int day, int entry) {
            return stands(easement, day, entry)
                    && (easement(easement).over == lot || lot(lot).tookOver(easement));
        }

        int[] lotsBurdened(int easement, int day) {
            int[] found = new int[lots.size()];
            int count = 0;
            for (int lot = 1; lot <= lots.size(); lot++) {
                if (isInBeing(lot, day, lastEntry()) && isBurdened(lot, easement, day, lastEntry())) {
                    found[count] = lot;
                    count++;
                }
            }
            return Arrays.copyOf(found, count);
        }

        /** Why a deed is refused before its own reason is looked at, 0 if it is not. */
        int objection(int[] names, int day) {
            for (int name : names) {
                if (!isInBeing(name, day, lastEntry())) {
                    return GONE;
                }
            }
            return isLate(names, day) ? LATE : 0;
        }

        boolean isLate(int[] names, int day) {
            for (int entry = 1; entry <= deeds.size(); entry++) {
                if (deed(entry).day > day && deed(entry).namesOneOf(names)) {
                    return true;
                }
            }
            return false;
        }

        int shareOf(int lot, int person, int day, int entry) {
            tellShares(lot, day, entry, shares);
            return shares[person];
        }

        boolean haveEqualShares(int a, int b, int day) {
            tellShares(a, day, lastEntry(), shares);
            tellShares(b, day, lastEntry(), otherShares);
            for (int person = 0; person < PERSONS; person++) {
                if (shares[person] != otherShares[person]) {
                    return false;
                }
            }
            return true;
        }

        /**
         * The lot's own transfers come on top of what it began with: none can come between the
         * deeds of its parents any more, as that would be late.
         */
        private void tellShares(int lot, int day, int entry, int[] told) {
            System.arraycopy(lot(lot).shares, 0, told, 0, PERSONS);
            for (int i = 1; i <= deeds.size(); i++) {
                Deed deed = deed(i);
                if (deed.kind == TRANSFER && deed.names[0] == lot && isInForce(i, day, entry)) {
                    told[deed.from] -= deed.parts;
                    told[deed.to] += deed.parts;
                }
            }
        }

        int enter(Deed deed) {
            deeds.add(deed);
            return deeds.size();
        }

        /** Ends the lots that the newest deed names, and begins others: the least number of these. */
        int replaceLots(Points[] rings) {
            int entry = lastEntry();
            Deed deed = deed(entry);
            int[] inherited = new int[PERSONS];
            tellShares(deed.names[0], deed.day, entry - 1, inherited);
            boolean[] tookOver = burdensOf(deed.names, deed.day, entry - 1);
            for (int name : deed.names) {
                lot(name).ended = entry;
            }
            int least = lots.size() + 1;
            for (Points ring : rings) {
                lots.add(new Lot(ring.copy(), entry, inherited, tookOver));
            }
            return least;
        }

        private boolean[] burdensOf(int[] names, int day, int entry) {
            boolean[] burdens = new boolean[easements.size() + 1];
            for (int easement = 1; easement <= easements.size(); easement++) {
                for (int name : names) {
                    if (isBurdened(name, easement, day, entry)) {
                        burdens[easement] = true;
                    }
                }
            }
            return burdens;
        }

        /** The newest deed grants an easement: its number. */
        int grant(int over) {
            easements.add(new Easement(over, lastEntry()));
            return easements.size();
        }

        /** The newest deed releases an easement: the deed's entry. */
        int endEasement(int easement) {
            easement(easement).released = lastEntry();
            return lastEntry();
        }

        /** The i-th lot that a deed ended, or else began; no deed has entry 0. */
        int changedBy(int entry, boolean ended, int i) {
            int before = 0;
            for (int lot = 1; lot <= lots.size() && entry > 0; lot++) {
                int changed = ended ? lot(lot).ended : lot(lot).began;
                if (changed == entry) {
                    if (before == i) {
                        return lot;
                    }
                    before++;
                }
            }
            return NONE;
        }

        /** Undoes all deeds behind an entry. */
        void cutBack(int entry) {
            for (int i = deeds.size() - 1; i >= entry; i--) {
                deeds.remove(i);
            }
            for (int i = lots.size() - 1; i >= 0; i--) {
                if (lots.get(i).began > entry) {
                    lots.remove(i);
                } else if (lots.get(i).ended > entry) {
                    lots.get(i).ended = 0;
                }
            }
            for (int i = easements.size() - 1; i >= 0; i--) {
                if (easements.get(i).granted > entry) {
                    easements.remove(i);
                } else if (easements.get(i).released > entry) {
                    easements.get(i).released = 0;
                }
            }
        }
    }

    /** The words that outlive a crash. */
    private static final class Log {
        private static final int END = -2147483648;
        private static final int DAYS = 32768;
        private static final int FIRST_ROOM = 256;

        private int[] words = new int[FIRST_ROOM];
        int size;
        int synced;

        /** How many words a record has: its text, two words before it and two behind. */
        static int lengthOf(int[] text) {
            return text.length + 4;
        }

        int at(int i) {
            return words[i];
        }

        void append(Deed deed, int entry, int[] text) {
            int start = size;
            int body = text.length + 2;
            put(deed.kind * UPPER + body);
            put(entry * DAYS + deed.day);
            for (int word : text) {
                put(word);
            }
            int sum = sumOf(start, body);
            put(END + body);
            put(END + sum);
        }

        private void put(int word) {
            if (size >= words.length) {
                words = Arrays.copyOf(words, 2 * size);
            }
            words[size] = word;
            size++;
        }

        /** What the second end word adds; the words from start on must be there. */
        private int sumOf(int start, int body) {
            long sum = 0;
            for (int i = 0; i < body; i++) {
                sum += (long) words[start + i] * (i + 1);
            }
            return (int) Math.floorMod(sum, 2147483648L);
        }

        /** How many words the record at a place has, 0 if it is not whole. */
        int recordLength(int place) {
            int body = words[place] % UPPER;
            if (body < 2 || body > size - place - 2) {
                return 0;
            }
            boolean ends = words[place + body] == END + body
                    && words[place + body + 1] == END + sumOf(place, body);
            return ends ? body + 2 : 0;
        }

        /** Cuts the log to a length, all of it synced. */
        void keep(int length) {
            size = length;
            synced = length;
        }

        /** Loses the words that are not synced, but for some. */
        void tear(int kept) {
            size = synced + Math.min(kept, size - synced);
        }
    }
}
