/** Promises 4 and 14 to 17: split, parent, child, corners, corner. */
final class SplitTest {
    public static void main(String[] args) {
        pieces();
        sameSide();
        straightCorners();
        reasons();
        runsOutside();
        orderOfRefusals();
        exceptions();
        relatives();
        Check.end();
    }

    private static void cuts(LandBook book, int lot, String first, String second, int... chain) {
        int least = book.many(0) + 1;
        Check.due("split", least, () -> Book.split(book, lot, 0, chain));
        Check.due("the lesser lot", first, () -> Book.ring(book, least));
        Check.due("the greater lot", second, () -> Book.ring(book, least + 1));
        Check.due("areas", book.area2(lot, 0, book.many(1) - 1),
                () -> book.area2(least, 0, 600) + book.area2(least + 1, 0, 600));
        Check.due("the row is empty", 1, () -> book.point(0, 0));
    }

    private static void pieces() {
        cuts(Book.square(10), 1, "4,0 10,0 10,10 4,10", "0,0 4,0 4,10 0,10", 4, 0, 4, 10);
        cuts(Book.square(10), 1, "0,0 4,0 4,10 0,10", "4,0 10,0 10,10 4,10", 4, 10, 4, 0);
        cuts(Book.square(10), 1, "0,0 10,0 10,10", "0,0 10,10 0,10", 0, 0, 10, 10);
        cuts(Book.square(10), 1, "0,0 10,10 0,10", "0,0 10,0 10,10", 10, 10, 0, 0);
        cuts(Book.square(10), 1, "5,3 10,0 10,10 7,10", "0,0 10,0 5,3 7,10 0,10", 10, 0, 5, 3, 7, 10);
        cuts(Book.square(20000), 1, "0,0 20000,0 20000,20000", "0,0 20000,20000 0,20000", 0, 0, 20000, 20000);
    }

    /** Both ends on one side, forwards and backwards along it, with corners as ends too. */
    private static void sameSide() {
        String tooth = "2,0 6,0 6,4 2,4";
        String rest = "0,0 2,0 2,4 6,4 6,0 10,0 10,10 0,10";
        cuts(Book.square(10), 1, tooth, rest, 2, 0, 2, 4, 6, 4, 6, 0);
        cuts(Book.square(10), 1, rest, tooth, 6, 0, 6, 4, 2, 4, 2, 0);
        cuts(Book.square(10), 1, "0,3 4,4 0,7", "0,0 10,0 10,10 0,10 0,7 4,4 0,3", 0, 7, 4, 4, 0, 3);
        cuts(Book.square(10), 1, "0,0 6,0 2,4", "0,0 2,4 6,0 10,0 10,10 0,10", 0, 0, 2, 4, 6, 0);
        cuts(Book.square(10), 1, "0,0 2,4 6,0 10,0 10,10 0,10", "0,0 6,0 2,4", 6, 0, 2, 4, 0, 0);
        cuts(Book.square(10), 1, "0,0 10,0 5,5", "0,0 5,5 10,0 10,10 0,10", 0, 0, 5, 5, 10, 0);
        cuts(Book.square(10), 1, "0,0 5,5 10,0 10,10 0,10", "0,0 10,0 5,5", 10, 0, 5, 5, 0, 0);
    }

    /** Corners of the parent, and points of the chain, at which a piece goes straight on. */
    private static void straightCorners() {
        cuts(Book.district(0, 0, 10, 0, 10, 10, 5, 5, 0, 10), 1, "5,5 10,0 10,10", "0,0 10,0 0,10",
                10, 0, 7, 3, 6, 4, 5, 5);
        cuts(Book.square(10), 1, "5,0 10,0 10,10 5,10", "0,0 5,0 5,10 0,10", 5, 0, 5, 1, 5, 9, 5, 10);
        cuts(Book.district(0, 0, 6, 2, 12, 0, 12, 10), 1, "6,2 12,0 12,4", "0,0 12,4 12,10", 6, 2, 12, 4);
    }

    private static void refused(LandBook book, int... chain) {
        Check.due("split", -3, () -> Book.split(book, 1, 0, chain));
        Check.due("no lot", 1, () -> book.many(0));
        Check.due("no deed", 0, () -> book.many(1));
        Check.due("no word", 0, () -> book.many(3));
        Check.due("still in being", true, () -> book.area2(1, 0, 600) > 0);
        Check.due("the row is empty", 1, () -> book.point(0, 0));
        Check.due("a chain of one point", -3, () -> book.split(1, 0));
    }

    private static void reasons() {
        LandBook book = Book.square(10);
        refused(book);
        refused(book, 5, 0);
        // ends that are not two different points of the ring
        refused(book, 5, 0, 5, 0);
        refused(book, 5, 0, 5, 5, 8, 5, 5, 0);
        refused(book, 5, 1, 5, 10);
        refused(book, 5, 0, 5, 9);
        refused(book, 11, 5, 0, 5);
        // another point outside, or on the ring
        refused(book, 5, 0, 12, 5, 5, 10);
        refused(book, 5, 0, 10, 5, 5, 10);
        refused(book, 5, 0, 10, 10, 0, 10);
        refused(book, 5, 0, 7, 0, 5, 10);
        // sides of length 0
        refused(book, 5, 0, 5, 5, 5, 5, 5, 10);
        refused(book, 5, 0, 5, 0, 5, 10);
        refused(book, 5, 0, 5, 10, 5, 10);
        // sides that cross, touch, overlap or go back
        refused(book, 5, 0, 5, 6, 8, 6, 8, 3, 2, 3, 2, 10);
        refused(book, 5, 0, 5, 6, 8, 6, 8, 3, 5, 3, 2, 10);
        refused(book, 5, 0, 5, 6, 8, 6, 5, 4, 5, 2, 0, 2);
        refused(book, 5, 0, 5, 6, 5, 4, 0, 4);
        refused(book, 5, 0, 5, 6, 8, 6, 5, 6, 0, 6);
        // a side along the ring
        refused(book, 0, 0, 10, 0);
        refused(book, 2, 0, 8, 0);
        refused(book, 0, 0, 3, 0);
        refused(book, 10, 3, 10, 10);
        // the last side passes the first point again
        refused(book, 5, 0, 7, 2, 3, 2, 7, 0);
        Check.due("the chain that fits", 2, () -> Book.split(book, 1, 0, 5, 0, 7, 2, 7, 4, 0, 4));
    }

    private static void runsOutside() {
        LandBook book = Book.district(0, 0, 12, 0, 12, 12, 6, 4, 0, 12);
        refused(book, 0, 12, 12, 12);
        refused(book, 3, 8, 9, 8);
        refused(book, 0, 8, 12, 8);
        // it touches the notch's tip on its way
        refused(book, 0, 4, 12, 4);
        refused(book, 1, 4, 11, 4);
        // along a side of the notch, and on behind it
        refused(book, 0, 12, 9, 0);
        // within at both ends of each side, outside between
        refused(book, 0, 7, 1, 7, 11, 7, 12, 7);
        Check.due("under the notch", 2, () -> Book.split(book, 1, 0, 0, 3, 12, 3));
        Check.due("onto the tip", 4, () -> Book.split(book, 3, 1, 6, 4, 0, 3));
        LandBook teeth = Book.district(0, 0, 2, 4, 4, 0, 6, 4, 8, 0, 8, 9, 0, 9);
        refused(teeth, 0, 0, 8, 0);
        refused(teeth, 0, 0, 4, 0);
        refused(teeth, 2, 4, 4, 4, 6, 4, 8, 4);
        refused(teeth, 0, 4, 8, 4);
    }

    private static void orderOfRefusals() {
        LandBook book = Book.square(10);
        Check.due("split", 2, () -> Book.split(book, 1, 10, 5, 0, 5, 10));
        Check.due("the lot has ended", -1, () -> Book.split(book, 1, 10, 5, 0));
        Check.due("the lot has ended", -1, () -> Book.split(book, 1, 11, 4, 0, 4, 10));
        Check.due("late, before its own reason", -2, () -> Book.split(book, 1, 9, 5, 0));
        Check.due("not yet begun", -1, () -> Book.split(book, 2, 9, 7, 0, 7, 10));
        Check.due("on the day it began", 4, () -> Book.split(book, 2, 10, 7, 0, 7, 10));
        Check.due("transfer", 3, () -> book.transfer(3, 0, 1, 1, 2, 20));
        Check.due("late", -2, () -> Book.split(book, 3, 19, 3, 0, 3, 10));
        Check.due("on the same day", 6, () -> Book.split(book, 3, 20, 3, 0, 3, 10));
    }

    private static void exceptions() {
        LandBook none = new LandBook();
        Check.due("no district", Book.STATE, () -> Book.split(none, 0, -1, 1, 1));
        Check.due("the row is empty", 1, () -> none.point(0, 0));
        LandBook book = Book.square(10);
        Check.due("no such lot", Book.INDEX, () -> Book.split(book, 0, -1, 5, 0, 5, 10));
        Check.due("the row is empty", 1, () -> book.point(0, 0));
        Check.due("no such lot", Book.INDEX, () -> book.split(2, 0));
        Check.due("no day", Book.ARGUMENT, () -> Book.split(book, 1, -1, 5, 0, 5, 10));
        Check.due("the row is empty", 1, () -> book.point(0, 0));
        Check.due("no day", Book.ARGUMENT, () -> book.split(1, 30001));
        Check.due("the last day", 2, () -> Book.split(book, 1, 30000, 5, 0, 5, 10));
        book.crash(99);
        Check.due("down", Book.STATE, () -> Book.split(book, 0, -1, 5, 0, 5, 10));
        Check.due("the row is empty", 1, () -> book.point(0, 0));
        Check.due("parent when down", Book.STATE, () -> book.parent(1, 0));
        Check.due("child when down", Book.STATE, () -> book.child(1, 0));
        Check.due("corners when down", Book.STATE, () -> book.corners(1));
        Check.due("corner when down", Book.STATE, () -> book.corner(1, 0));
    }

    private static void relatives() {
        LandBook book = Book.square(10);
        Check.due("child of a lot that has not ended", 0, () -> book.child(1, 0));
        Check.due("parent of the district", 0, () -> book.parent(1, 0));
        Book.split(book, 1, 5, 5, 0, 5, 10);
        Book.split(book, 3, 6, 2, 0, 2, 10);
        Check.due("merge", 6, () -> book.merge(4, 2, 7));
        int[][] families = {{1, 0, 0, 2, 3}, {2, 1, 0, 6, 0}, {3, 1, 0, 4, 5}, {4, 3, 0, 6, 0}, {5, 3, 0, 0, 0},
            {6, 2, 4, 0, 0}};
        for (int[] family : families) {
            Check.due("first parent of " + family[0], family[1], () -> book.parent(family[0], 0));
            Check.due("second parent of " + family[0], family[2], () -> book.parent(family[0], 1));
            Check.due("first child of " + family[0], family[3], () -> book.child(family[0], 0));
            Check.due("second child of " + family[0], family[4], () -> book.child(family[0], 1));
        }
        int[][] wrong = {{0, 0}, {7, 0}, {1, -1}, {1, 2}, {7, 2}};
        for (int[] call : wrong) {
            Check.due("parent", Book.INDEX, () -> book.parent(call[0], call[1]));
            Check.due("child", Book.INDEX, () -> book.child(call[0], call[1]));
        }
        Check.due("corners of a lot that ended", 4, () -> book.corners(1));
        Check.due("corners", Book.INDEX, () -> book.corners(0));
        Check.due("corners", Book.INDEX, () -> book.corners(7));
        Check.due("corner of a lot that ended", 10 * 32768 + 10, () -> book.corner(1, 2));
        Check.due("corner", Book.INDEX, () -> book.corner(1, 4));
        Check.due("corner", Book.INDEX, () -> book.corner(1, -1));
        Check.due("corner", Book.INDEX, () -> book.corner(7, 0));
    }
}
