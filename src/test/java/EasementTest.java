/** Promises 7, 8 and 13: ease, release, burden. */
final class EasementTest {
    public static void main(String[] args) {
        grants();
        takenOver();
        releases();
        lateReleases();
        exceptions();
        Check.end();
    }

    /** Lot 2 to the right of x = 5, lot 3 to the left, from day 1 on. */
    private static LandBook halves() {
        LandBook book = Book.square(10);
        Book.split(book, 1, 1, 5, 0, 5, 10);
        return book;
    }

    /** The easements that burden a lot, or what the first question answers instead. */
    private static String burdens(LandBook book, int lot, int day, int entry) {
        StringBuilder text = new StringBuilder();
        for (int i = 0; i <= book.many(2); i++) {
            int easement = book.burden(lot, i, day, entry);
            text.append(i == 0 ? "" : " ").append(easement);
            if (easement <= 0) {
                break;
            }
        }
        return text.toString();
    }

    private static void burdened(String want, LandBook book, int lot, int day, int entry) {
        Check.due("burdens of " + lot + " as of " + day + ", " + entry, want, () -> burdens(book, lot, day, entry));
    }

    private static void grants() {
        LandBook book = halves();
        Check.due("ease", 1, () -> book.ease(2, 3, 4));
        Check.due("ease", 2, () -> book.ease(3, 2, 4));
        Check.due("ease", 3, () -> book.ease(2, 3, 6));
        burdened("1 3 0", book, 2, 6, 4);
        burdened("1 0", book, 2, 5, 4);
        burdened("0", book, 2, 3, 4);
        burdened("1 0", book, 2, 30000, 3);
        burdened("0", book, 2, 30000, 1);
        burdened("2 0", book, 3, 6, 99);
        burdened("-1", book, 1, 6, 99);
        burdened("-1", book, 2, 0, 99);
        Check.due("far behind", 0, () -> book.burden(2, Integer.MAX_VALUE, 6, 99));
        Check.due("easements", 3, () -> book.many(2));
        Check.due("the same", -3, () -> book.ease(2, 2, 6));
        Check.due("ended", -1, () -> book.ease(1, 2, 6));
        Check.due("ended", -1, () -> book.ease(2, 1, 6));
        Check.due("the same, and ended", -1, () -> book.ease(1, 1, 6));
        Check.due("late", -2, () -> book.ease(2, 3, 5));
        Check.due("late by the other lot", -2, () -> book.transfer(3, 0, 1, 1, 2, 5));
        Check.due("late before the same", -2, () -> book.ease(3, 3, 5));
    }

    private static void takenOver() {
        LandBook book = halves();
        book.ease(2, 3, 2);
        book.ease(3, 2, 2);
        Check.due("split", 4, () -> Book.split(book, 2, 3, 5, 5, 10, 5));
        burdened("1 0", book, 4, 3, 9);
        burdened("1 0", book, 5, 3, 9);
        burdened("-1", book, 2, 3, 9);
        burdened("1 0", book, 2, 3, 3);
        Check.due("one more over a child", 3, () -> book.ease(5, 4, 3));
        Check.due("merge", 6, () -> book.merge(5, 3, 4));
        burdened("1 2 3 0", book, 6, 4, 9);
        burdened("1 0", book, 4, 4, 9);
        Check.due("split again", 7, () -> Book.split(book, 6, 5, 3, 0, 3, 10));
        burdened("1 2 3 0", book, 7, 5, 9);
        burdened("1 2 3 0", book, 8, 5, 9);
        Check.due("release", 8, () -> book.release(2, 6));
        burdened("1 3 0", book, 7, 6, 9);
        burdened("1 2 3 0", book, 7, 6, 7);
        burdened("1 2 3 0", book, 7, 5, 9);
        Check.due("merge", 9, () -> book.merge(7, 8, 6));
        burdened("1 3 0", book, 9, 6, 9);
    }

    private static void releases() {
        LandBook book = halves();
        book.ease(2, 3, 4);
        Check.due("before the grant", -1, () -> book.release(1, 3));
        Check.due("release", 3, () -> book.release(1, 7));
        burdened("1 0", book, 2, 6, 9);
        burdened("0", book, 2, 7, 9);
        burdened("1 0", book, 2, 7, 2);
        Check.due("released already", -1, () -> book.release(1, 7));
        Check.due("released already", -1, () -> book.release(1, 8));
        Check.due("it stands, but the first release is later", -2, () -> book.release(1, 6));
        Check.due("easements", 1, () -> book.many(2));
        Check.due("the release names the lot", -2, () -> book.transfer(2, 0, 1, 1, 1, 6));
        Check.due("but not the other one", 4, () -> book.transfer(3, 0, 1, 1, 1, 6));
    }

    private static void lateReleases() {
        LandBook book = halves();
        book.ease(2, 3, 2);
        Book.split(book, 2, 5, 5, 5, 10, 5);    // 4 below, 5 above
        Check.due("the parent was split later", -2, () -> book.release(1, 4));
        Check.due("transfer of a child", 4, () -> book.transfer(5, 0, 1, 1, 1, 9));
        Check.due("late by one of the children", -2, () -> book.release(1, 8));
        Check.due("release", 5, () -> book.release(1, 9));
        Check.due("it names both children", -2, () -> book.transfer(4, 0, 1, 1, 1, 8));
        Check.due("on its day", 6, () -> book.transfer(4, 0, 1, 1, 1, 9));
        Check.due("lots that were never burdened are free", 7, () -> book.transfer(3, 0, 1, 1, 1, 3));
    }

    private static void exceptions() {
        LandBook none = new LandBook();
        Check.due("no district", Book.STATE, () -> none.ease(0, 0, -1));
        Check.due("no district", Book.STATE, () -> none.release(0, -1));
        Check.due("no district", Book.STATE, () -> none.burden(0, -1, -1, -1));
        LandBook book = halves();
        Check.due("no such lot", Book.INDEX, () -> book.ease(0, 2, -1));
        Check.due("no such lot", Book.INDEX, () -> book.ease(2, 4, -1));
        Check.due("no day", Book.ARGUMENT, () -> book.ease(2, 3, -1));
        Check.due("no day", Book.ARGUMENT, () -> book.ease(2, 3, 30001));
        Check.due("no such easement", Book.INDEX, () -> book.release(1, -1));
        book.ease(2, 3, 30000);
        Check.due("no such easement", Book.INDEX, () -> book.release(0, 5));
        Check.due("no such easement", Book.INDEX, () -> book.release(2, 5));
        Check.due("no day", Book.ARGUMENT, () -> book.release(1, -1));
        Check.due("no day", Book.ARGUMENT, () -> book.release(1, 30001));
        Check.due("no such lot", Book.INDEX, () -> book.burden(4, -1, -1, -1));
        Check.due("no such lot", Book.INDEX, () -> book.burden(0, 0, 0, 0));
        Check.due("negative place", Book.ARGUMENT, () -> book.burden(1, -1, 0, 0));
        Check.due("no day", Book.ARGUMENT, () -> book.burden(1, 0, 30001, 0));
        Check.due("no day", Book.ARGUMENT, () -> book.burden(1, 0, -1, 0));
        Check.due("negative entry", Book.ARGUMENT, () -> book.burden(1, 0, 0, -1));
        book.crash(0);
        Check.due("down", Book.STATE, () -> book.ease(2, 3, 5));
        Check.due("down", Book.STATE, () -> book.release(1, 5));
        Check.due("down", Book.STATE, () -> book.burden(1, 0, 0, 0));
    }
}
