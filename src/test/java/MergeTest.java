/** Promise 5: merge. */
final class MergeTest {
    public static void main(String[] args) {
        undoesSplits();
        partsOfSides();
        morePlacesInCommon();
        shares();
        orderOfRefusals();
        exceptions();
        Check.end();
    }

    private static void undoesSplits() {
        int[][] chains = {{4, 0, 4, 10}, {0, 0, 10, 10}, {10, 0, 5, 3, 7, 10}, {6, 0, 6, 4, 2, 4, 2, 0},
            {0, 7, 4, 4, 0, 3}, {0, 0, 2, 4, 6, 0}, {10, 0, 5, 5, 0, 0}, {5, 0, 5, 1, 5, 9, 5, 10}};
        for (int[] chain : chains) {
            LandBook book = Book.square(10);
            Book.split(book, 1, 3, chain);
            Check.due("merge", 4, () -> book.merge(3, 2, 3));
            Check.due("ring", Book.ring(book, 1), () -> Book.ring(book, 4));
            Check.due("area", 200, () -> book.area2(4, 3, 2));
            Check.due("the first has ended", -1, () -> book.area2(2, 3, 2));
            Check.due("the second has ended", -1, () -> book.area2(3, 3, 2));
            Check.due("its record", 3 * 65536 + 2, () -> book.word(book.many(3) - 3));
        }
    }

    /** Four strips of different heights, so that lots have only parts of their sides in common. */
    private static LandBook strips() {
        LandBook book = Book.square(12);
        Book.split(book, 1, 0, 6, 0, 6, 12);    // 2 right, 3 left
        Book.split(book, 2, 0, 6, 4, 12, 4);    // 4 below, 5 above
        Book.split(book, 3, 0, 0, 8, 6, 8);     // 6 below, 7 above
        return book;
    }

    private static void merged(LandBook book, int a, int b, String ring) {
        int number = book.many(0) + 1;
        Check.due("merge", number, () -> book.merge(a, b, 0));
        Check.due("ring", ring, () -> Book.ring(book, number));
    }

    private static void partsOfSides() {
        Check.due("lot 4", "6,0 12,0 12,4 6,4", () -> Book.ring(strips(), 4));
        Check.due("lot 5", "6,4 12,4 12,12 6,12", () -> Book.ring(strips(), 5));
        Check.due("lot 6", "0,0 6,0 6,8 0,8", () -> Book.ring(strips(), 6));
        Check.due("lot 7", "0,8 6,8 6,12 0,12", () -> Book.ring(strips(), 7));
        merged(strips(), 4, 6, "0,0 12,0 12,4 6,4 6,8 0,8");
        merged(strips(), 5, 6, "0,0 6,0 6,4 12,4 12,12 6,12 6,8 0,8");
        merged(strips(), 7, 5, "0,8 6,8 6,4 12,4 12,12 0,12");
        LandBook book = strips();
        merged(book, 4, 6, "0,0 12,0 12,4 6,4 6,8 0,8");
        // two sides and a bend in common
        merged(book, 5, 8, "0,0 12,0 12,12 6,12 6,8 0,8");
        merged(book, 9, 7, "0,0 12,0 12,12 0,12");
        Check.due("just nothing in common", -3, () -> strips().merge(4, 7, 0));
        LandBook corner = Book.square(10);
        Book.split(corner, 1, 0, 5, 0, 5, 10);
        Book.split(corner, 2, 0, 5, 5, 10, 5);
        Book.split(corner, 3, 0, 0, 5, 5, 5);
        Check.due("just a point in common", -3, () -> corner.merge(4, 7, 0));
        Check.due("just a point in common", -3, () -> corner.merge(5, 6, 0));
        Check.due("a line in common", 8, () -> corner.merge(4, 6, 0));
    }

    private static void morePlacesInCommon() {
        LandBook twoLines = Book.square(12);
        Book.split(twoLines, 1, 0, 12, 3, 4, 3, 4, 9, 12, 9);  // 2 the inner, 3 the C
        Book.split(twoLines, 2, 0, 8, 3, 8, 9);                // 4 and 5: right and left
        Check.due("the left fits the C", "4,3 8,3 8,9 4,9", () -> Book.ring(twoLines, 5));
        Check.due("two lines apart from one another", -3, () -> twoLines.merge(4, 3, 0));
        Check.due("three sides of it", 6, () -> twoLines.merge(5, 3, 0));
        Check.due("what is left", "0,0 12,0 12,3 8,3 8,9 12,9 12,12 0,12", () -> Book.ring(twoLines, 6));

        LandBook lineAndPoint = Book.square(12);
        Book.split(lineAndPoint, 1, 0, 12, 3, 4, 3, 4, 9, 12, 9);
        Book.split(lineAndPoint, 2, 0, 12, 5, 8, 9);           // 4 the corner at 12,9, 5 the rest
        Book.split(lineAndPoint, 5, 0, 4, 6, 8, 3);            // 6 the corner at 4,3: right; 7
        int left = lineAndPoint.lotAt(5, 4, 0, 9);
        int middle = lineAndPoint.lotAt(8, 6, 0, 9);
        Check.due("a line with the C", true, () -> lineAndPoint.next(left, 0, 0, 9) == 3);
        Check.due("two bends", -3, () -> lineAndPoint.merge(middle, 3, 0));
        Check.due("a bend", 8, () -> lineAndPoint.merge(left, 3, 0));

        // a triangle with a side on the C, that touches it with its tip once more
        LandBook tip = Book.square(12);
        Book.split(tip, 1, 0, 12, 3, 4, 3, 4, 9, 12, 9);
        Book.split(tip, 2, 0, 4, 3, 8, 9);                     // 4 to the right, 5 to the left
        Book.split(tip, 5, 0, 4, 6, 8, 9);                     // 6 below, 7 above
        Check.due("the triangle", "4,3 8,9 4,6", () -> Book.ring(tip, 6));
        Check.due("a line and a point", -3, () -> tip.merge(6, 3, 0));
        Check.due("a line and a point", -3, () -> tip.merge(3, 6, 0));
        Check.due("a bend", 8, () -> tip.merge(7, 3, 0));
        Check.due("two sides of the tip", 9, () -> tip.merge(8, 6, 0));
    }

    private static void shares() {
        LandBook book = Book.square(10);
        Book.split(book, 1, 0, 5, 0, 5, 10);
        Check.due("transfer", 2, () -> book.transfer(2, 0, 9, 1, 2, 4));
        Check.due("shares differ", -3, () -> book.merge(2, 3, 4));
        Check.due("another person has as much", 3, () -> book.transfer(3, 0, 8, 1, 2, 4));
        Check.due("shares differ", -3, () -> book.merge(2, 3, 5));
        Check.due("transfer", 4, () -> book.transfer(3, 8, 9, 1, 2, 5));
        Check.due("late", -2, () -> book.merge(2, 3, 4));
        Check.due("equal shares", 4, () -> book.merge(2, 3, 5));
        Check.due("the shares of both", 2520, () -> book.share(4, 9, 5, 5));
        Check.due("the shares of both", 2520, () -> book.share(4, 0, 5, 5));
    }

    private static void orderOfRefusals() {
        LandBook book = strips();
        Check.due("the same", -3, () -> book.merge(4, 4, 0));
        Check.due("the first has ended", -1, () -> book.merge(2, 4, 0));
        Check.due("the second has ended", -1, () -> book.merge(4, 2, 0));
        Check.due("the same, and ended", -1, () -> book.merge(2, 2, 0));
        Check.due("ease", 1, () -> book.ease(7, 4, 9));
        Check.due("late for the first", -2, () -> book.merge(4, 5, 8));
        Check.due("late for the second", -2, () -> book.merge(5, 4, 8));
        Check.due("late before the same", -2, () -> book.merge(4, 4, 8));
        Check.due("not late for others", 8, () -> book.merge(5, 6, 8));
        Check.due("on the same day", -3, () -> book.merge(4, 7, 9));
    }

    private static void exceptions() {
        Check.due("no district", Book.STATE, () -> new LandBook().merge(0, 0, -1));
        LandBook book = strips();
        Check.due("no such lot", Book.INDEX, () -> book.merge(0, 4, -1));
        Check.due("no such lot", Book.INDEX, () -> book.merge(4, 8, -1));
        Check.due("no day", Book.ARGUMENT, () -> book.merge(4, 5, -1));
        Check.due("no day", Book.ARGUMENT, () -> book.merge(4, 5, 30001));
        Check.due("point", 1, () -> book.point(1, 1));
        Check.due("merge", 8, () -> book.merge(4, 5, 30000));
        Check.due("the row is not read", 2, () -> book.point(1, 1));
        book.crash(0);
        Check.due("down", Book.STATE, () -> book.merge(4, 5, 0));
    }
}
