/** Promises 9, 10 and 12: lotAt, area2, next. */
final class PlaceTest {
    public static void main(String[] args) {
        places();
        notches();
        areas();
        neighbours();
        exceptions();
        Check.end();
    }

    private static void at(int want, LandBook book, int x, int y, int day, int entry) {
        Check.due("lotAt " + x + ", " + y + " as of " + day + ", " + entry, want,
                () -> book.lotAt(x, y, day, entry));
    }

    private static void places() {
        LandBook book = Book.district(2, 2, 12, 2, 12, 12, 2, 12);
        Book.split(book, 1, 5, 7, 2, 7, 12);    // 2 right, 3 left
        Book.split(book, 3, 8, 2, 7, 7, 7);     // 4 below, 5 above
        at(1, book, 5, 5, 4, 99);
        at(1, book, 5, 5, 9, 0);
        at(3, book, 5, 5, 5, 99);
        at(3, book, 5, 5, 9, 1);
        at(4, book, 5, 5, 8, 2);
        at(5, book, 5, 9, 8, 2);
        at(2, book, 9, 9, 8, 2);
        // on rings: the least number
        at(2, book, 7, 7, 8, 2);
        at(2, book, 7, 3, 8, 2);
        at(4, book, 4, 7, 8, 2);
        at(4, book, 2, 7, 8, 2);
        at(4, book, 2, 2, 8, 2);
        at(2, book, 12, 12, 8, 2);
        at(2, book, 12, 3, 8, 2);
        // outside
        at(0, book, 1, 7, 8, 2);
        at(0, book, 13, 7, 8, 2);
        at(0, book, 7, 1, 8, 2);
        at(0, book, 7, 13, 0, 0);
        at(0, book, 0, 2, 0, 0);
        at(0, book, 20000, 12, 0, 0);
    }

    /** Rays that pass through corners, along sides and past teeth. */
    private static void notches() {
        LandBook teeth = Book.district(2, 0, 4, 4, 6, 0, 8, 4, 10, 0, 10, 9, 6, 5, 2, 9);
        int[][] within = {{2, 4}, {2, 5}, {3, 4}, {4, 4}, {4, 5}, {6, 4}, {8, 4}, {9, 4}, {10, 4}, {6, 0}, {6, 1},
            {6, 5}, {3, 8}, {9, 8}, {3, 2}, {5, 2}, {7, 2}, {2, 9}, {10, 9}};
        int[][] outside = {{4, 0}, {8, 0}, {1, 4}, {11, 4}, {0, 0}, {4, 3}, {8, 3}, {6, 6}, {6, 9}, {1, 9}, {4, 8},
            {0, 5}, {1, 5}, {3, 0}, {4, 2}};
        for (int[] point : within) {
            at(1, teeth, point[0], point[1], 0, 0);
        }
        for (int[] point : outside) {
            at(0, teeth, point[0], point[1], 0, 0);
        }
        // a sliver along the diagonal of all that there is
        LandBook sliver = Book.district(0, 0, 20000, 19999, 20000, 20000);
        at(1, sliver, 10000, 10000, 0, 0);
        at(0, sliver, 10000, 9999, 0, 0);
        at(0, sliver, 10000, 10001, 0, 0);
        at(1, sliver, 20000, 19999, 0, 0);
        at(0, sliver, 19999, 19998, 0, 0);
        at(1, sliver, 19999, 19999, 0, 0);
    }

    private static void areas() {
        LandBook book = Book.square(20000);
        Check.due("area", 800000000, () -> book.area2(1, 0, 0));
        Book.split(book, 1, 10, 0, 0, 20000, 19999);
        Check.due("area", 399980000, () -> book.area2(2, 10, 1));
        Check.due("area", 400020000, () -> book.area2(3, 10, 1));
        Check.due("ended", -1, () -> book.area2(1, 10, 1));
        Check.due("not yet ended", 800000000, () -> book.area2(1, 9, 1));
        Check.due("its end not recorded", 800000000, () -> book.area2(1, 30000, 0));
        Check.due("not yet begun", -1, () -> book.area2(2, 9, 1));
        Check.due("its begin not recorded", -1, () -> book.area2(2, 30000, 0));
        Check.due("odd", 1, () -> Book.district(3, 3, 4, 3, 3, 4).area2(1, 0, 0));
    }

    private static void beside(LandBook book, int lot, int day, int entry, int... want) {
        for (int i = 0; i < want.length; i++) {
            int it = i;
            Check.due("neighbour " + it + " of " + lot + " as of " + day + ", " + entry, want[it],
                    () -> book.next(lot, it, day, entry));
        }
    }

    private static void neighbours() {
        LandBook book = Book.square(12);
        Book.split(book, 1, 0, 6, 0, 6, 12);    // 2 right, 3 left
        Book.split(book, 2, 2, 6, 6, 12, 6);    // 4 below, 5 above
        Book.split(book, 3, 4, 0, 6, 6, 6);     // 6 below, 7 above
        String lots = Book.ring(book, 6) + " and " + Book.ring(book, 7);
        Check.due("lots 6 and 7", "0,0 6,0 6,6 0,6 and 0,6 6,6 6,12 0,12", () -> lots);
        beside(book, 1, 0, 0, 0, 0);
        beside(book, 1, 0, 1, -1);
        beside(book, 2, 1, 9, 3, 0);
        beside(book, 3, 2, 9, 4, 5, 0, 0);
        beside(book, 3, 4, 2, 4, 5, 0);
        // 4 meets 7 in a point alone
        beside(book, 4, 4, 9, 5, 6, 0, 0);
        beside(book, 5, 4, 9, 4, 7, 0);
        beside(book, 6, 4, 9, 4, 7, 0);
        beside(book, 7, 4, 9, 5, 6, 0);
        beside(book, 4, 3, 9, 3, 5, 0);
        beside(book, 4, 1, 9, -1, -1);
        Check.due("far behind", 0, () -> book.next(4, Integer.MAX_VALUE, 4, 9));
        LandBook slanted = Book.district(0, 0, 12, 6, 0, 12);
        Book.split(slanted, 1, 0, 4, 2, 0, 9);
        Book.split(slanted, 3, 0, 0, 4, 2, 1);
        int below = slanted.lotAt(1, 1, 0, 9);
        int above = slanted.lotAt(0, 8, 0, 9);
        int right = slanted.lotAt(9, 6, 0, 9);
        beside(slanted, above, 0, 9, Math.min(below, right), Math.max(below, right), 0);
        beside(slanted, below, 0, 9, above, 0);
        beside(slanted, right, 0, 9, above, 0);
    }

    private static void exceptions() {
        LandBook none = new LandBook();
        Check.due("no district", Book.STATE, () -> none.lotAt(-1, -1, -1, -1));
        Check.due("no district", Book.STATE, () -> none.area2(0, -1, -1));
        Check.due("no district", Book.STATE, () -> none.next(0, -1, -1, -1));
        LandBook book = Book.square(10);
        int[][] noPlace = {{-1, 0, 0, 0}, {0, -1, 0, 0}, {20001, 0, 0, 0}, {0, 20001, 0, 0}, {0, 0, -1, 0},
            {0, 0, 30001, 0}, {0, 0, 0, -1}};
        for (int[] call : noPlace) {
            Check.due("lotAt", Book.ARGUMENT, () -> book.lotAt(call[0], call[1], call[2], call[3]));
        }
        int[][] noTime = {{-1, 0}, {30001, 0}, {0, -1}, {0, Integer.MIN_VALUE}};
        for (int[] call : noTime) {
            Check.due("area2", Book.ARGUMENT, () -> book.area2(1, call[0], call[1]));
            Check.due("next", Book.ARGUMENT, () -> book.next(1, 0, call[0], call[1]));
            Check.due("no such lot", Book.INDEX, () -> book.area2(2, call[0], call[1]));
            Check.due("no such lot", Book.INDEX, () -> book.next(0, -1, call[0], call[1]));
        }
        Check.due("negative place", Book.ARGUMENT, () -> book.next(1, -1, 0, 0));
        book.crash(0);
        Check.due("down", Book.STATE, () -> book.lotAt(0, 0, 0, 0));
        Check.due("down", Book.STATE, () -> book.area2(1, 0, 0));
        Check.due("down", Book.STATE, () -> book.next(1, 0, 0, 0));
    }
}
