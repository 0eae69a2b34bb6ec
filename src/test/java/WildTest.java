import java.util.Random;

/**
 * Runs of calls by fixed seeds with arguments that are often wrong, in every state: whether a call
 * throws, and which of the exceptions that fit, told from the document's words alone.
 */
final class WildTest {
    private static final int RUNS = 1500;
    private static final int STEPS = 90;
    private static final int[] WRONG = {Integer.MIN_VALUE, -30000, -1, 0, 1, 2, 3, 4, 5, 99, 100, 5040, 5041, 20000,
        20001, 30000, 30001, 65536, Integer.MAX_VALUE};
    private static final String NOTHING = "nothing";

    private final Random random;
    private final int run;
    private final LandBook book = new LandBook();
    private boolean district;
    private boolean down;
    private int row;
    private int mounts;
    private int lots;
    private int easements;
    private int words;
    private String due;

    private WildTest(int run) {
        this.run = run;
        random = new Random(run);
    }

    public static void main(String[] args) {
        int[] thrown = new int[2];
        for (int run = 0; run < RUNS && Check.allRight(); run++) {
            WildTest test = new WildTest(run);
            for (int step = 0; step < STEPS && Check.allRight(); step++) {
                test.step(thrown);
            }
        }
        Check.that("enough of both: " + thrown[0] + " and " + thrown[1], thrown[0] > 9000 && thrown[1] > 9000);
        Check.end();
    }

    private int below(int bound) {
        return random.nextInt(bound);
    }

    /** Mostly a number from 0 to a bound, at times one at some boundary. */
    private int near(int bound) {
        return below(12) == 0 ? WRONG[below(WRONG.length)] : below(12) == 0 ? bound + 1 : below(bound + 1);
    }

    private void step(int[] thrown) {
        lots = book.many(0);
        easements = book.many(2);
        words = book.many(3);
        due = NOTHING;
        Check.Call call = anyCall();
        String want = due;
        Object got = Check.answerOf(call);
        boolean threw = got instanceof String;
        Check.due("run " + run, want, () -> threw ? got : NOTHING);
        thrown[threw ? 1 : 0]++;
    }

    /** Notes an exception that fits; those that a call names first are noted first. */
    private void fits(String exception, boolean when) {
        if (when && due.equals(NOTHING)) {
            due = exception;
        }
    }

    private void up() {
        fits(Book.STATE, !district || down);
    }

    private int lot() {
        int lot = near(lots);
        fits(Book.INDEX, lot < 1 || lot > lots);
        return lot;
    }

    private int argument(int least, int most, int usual) {
        int value = near(usual);
        fits(Book.ARGUMENT, value < least || value > most);
        return value;
    }

    private int day() {
        return argument(0, 30000, 40);
    }

    private int entry() {
        return argument(0, Integer.MAX_VALUE, 40);
    }

    private Check.Call anyCall() {
        switch (below(20)) {
            case 0, 1, 2, 3:
                return point();
            case 4:
                return open();
            case 5, 6:
                return split();
            case 7, 8, 9:
                return otherDeed();
            case 10, 11, 12, 13:
                return questionOfADay();
            case 14, 15, 16:
                return question();
            case 17:
                return wordOrMany();
            default:
                return logCall();
        }
    }

    private Check.Call point() {
        int x = near(20) * (below(8) == 0 ? 1000 : 1);
        int y = near(20) * (below(8) == 0 ? 1000 : 1);
        fits(Book.ARGUMENT, x < 0 || x > 20000 || y < 0 || y > 20000);
        fits(Book.UNSUPPORTED, row == 32);
        row += due.equals(NOTHING) ? 1 : 0;
        return () -> book.point(x, y);
    }

    /** Half of the times the row is a square first, so that there is a district soon. */
    private Check.Call open() {
        fits(Book.STATE, district || down);
        boolean square = !district && row == 0 && below(2) == 0;
        if (square) {
            Book.row(book, 0, 0, 20, 0, 20, 20, 0, 20);
        }
        row = 0;
        return () -> {
            boolean is = book.open();
            district |= is;
            return is;
        };
    }

    private Check.Call split() {
        up();
        int lot = lot();
        int day = day();
        if (row == 0 && due.equals(NOTHING) && below(4) > 0) {
            int corner = book.corner(lot, 0);
            int other = book.corner(lot, 2);
            Book.row(book, corner / 32768, corner % 32768, other / 32768, other % 32768);
        }
        row = 0;
        return () -> book.split(lot, day);
    }

    private Check.Call otherDeed() {
        up();
        int kind = below(4);
        if (kind == 0) {
            int easement = near(easements);
            fits(Book.INDEX, easement < 1 || easement > easements);
            int day = day();
            return () -> book.release(easement, day);
        }
        int a = lot();
        if (kind == 1) {
            int from = argument(0, 99, 3);
            int to = argument(0, 99, 3);
            int num = argument(1, 5040, 4);
            int den = argument(1, 5040, 9);
            int day = day();
            return () -> book.transfer(a, from, to, num, den, day);
        }
        int b = lot();
        int day = day();
        return kind == 2 ? () -> book.merge(a, b, day) : () -> book.ease(a, b, day);
    }

    private Check.Call questionOfADay() {
        up();
        int kind = below(5);
        if (kind == 0) {
            int x = argument(0, 20000, 20);
            int y = argument(0, 20000, 20);
            int day = day();
            int entry = entry();
            return () -> book.lotAt(x, y, day, entry);
        }
        int lot = lot();
        int i = kind == 1 ? 0 : kind == 2 ? argument(0, 99, 3) : argument(0, Integer.MAX_VALUE, 3);
        int day = day();
        int entry = entry();
        return switch (kind) {
            case 1 -> () -> book.area2(lot, day, entry);
            case 2 -> () -> book.share(lot, i, day, entry);
            case 3 -> () -> book.next(lot, i, day, entry);
            default -> () -> book.burden(lot, i, day, entry);
        };
    }

    private Check.Call question() {
        up();
        int lot = lot();
        int kind = below(4);
        if (kind == 0) {
            return () -> book.corners(lot);
        }
        int most = kind > 1 ? 1 : due.equals(NOTHING) ? book.corners(lot) - 1 : 3;
        int i = near(most);
        fits(Book.INDEX, i < 0 || i > most);
        return switch (kind) {
            case 1 -> () -> book.corner(lot, i);
            case 2 -> () -> book.parent(lot, i);
            default -> () -> book.child(lot, i);
        };
    }

    private Check.Call wordOrMany() {
        boolean word = below(2) == 0;
        int most = word ? words - 1 : 4;
        int i = near(Math.max(0, most));
        fits(Book.INDEX, i < 0 || i > most);
        return word ? () -> book.word(i) : () -> book.many(i);
    }

    private Check.Call logCall() {
        int kind = below(4);
        if (kind == 0) {
            up();
            return book::sync;
        }
        if (kind == 1 && below(3) == 0) {
            up();
            int kept = argument(0, Integer.MAX_VALUE, 30);
            down |= due.equals(NOTHING);
            return () -> book.crash(kept);
        }
        fits(Book.STATE, !district);
        fits(Book.UNSUPPORTED, mounts == 40);
        mounts += due.equals(NOTHING) ? 1 : 0;
        down &= !due.equals(NOTHING);
        return book::mount;
    }
}
