/** Promises 6 and 11: transfer and share. */
final class ShareTest {
    public static void main(String[] args) {
        transfers();
        asOf();
        inherited();
        reasons();
        exceptions();
        Check.end();
    }

    private static void transfers() {
        LandBook book = Book.square(10);
        Check.due("person 0 has all", 5040, () -> book.share(1, 0, 0, 0));
        Check.due("others have nothing", 0, () -> book.share(1, 99, 30000, 0));
        Check.due("transfer", 1, () -> book.transfer(1, 0, 99, 2, 7, 3));
        Check.due("the former", 3600, () -> book.share(1, 0, 3, 1));
        Check.due("the latter", 1440, () -> book.share(1, 99, 3, 1));
        Check.due("one part", 2, () -> book.transfer(1, 99, 5, 1, 5040, 3));
        Check.due("the rest", 3, () -> book.transfer(1, 99, 5, 1439, 5040, 3));
        Check.due("nothing left", 0, () -> book.share(1, 99, 3, 3));
        Check.due("all of it", 1440, () -> book.share(1, 5, 3, 3));
        Check.due("terms that cancel out", 4, () -> book.transfer(1, 0, 6, 5, 10, 3));
        Check.due("half", 2520, () -> book.share(1, 6, 3, 4));
    }

    private static void asOf() {
        LandBook book = Book.square(10);
        book.transfer(1, 0, 1, 1, 2, 10);
        book.transfer(1, 1, 2, 1, 4, 20);
        int[][] due = {{9, 2, 5040, 0, 0}, {10, 2, 2520, 2520, 0}, {19, 2, 2520, 2520, 0}, {20, 2, 2520, 1260, 1260},
            {30000, 1, 2520, 2520, 0}, {30000, 0, 5040, 0, 0}, {30000, Integer.MAX_VALUE, 2520, 1260, 1260}};
        for (int[] row : due) {
            for (int person = 0; person < 3; person++) {
                int it = person;
                Check.due("share of " + it + " as of " + row[0] + ", " + row[1], row[2 + it],
                        () -> book.share(1, it, row[0], row[1]));
            }
        }
    }

    private static void inherited() {
        LandBook book = Book.square(10);
        book.transfer(1, 0, 1, 1, 3, 1);
        Book.split(book, 1, 2, 5, 0, 5, 10);
        book.transfer(2, 1, 7, 1, 6, 3);
        Check.due("what is left of the parent's", 840, () -> book.share(2, 1, 3, 3));
        Check.due("its own", 840, () -> book.share(2, 7, 3, 3));
        Check.due("before its own", 1680, () -> book.share(2, 1, 2, 3));
        Check.due("the other child", 1680, () -> book.share(3, 1, 3, 3));
        Check.due("the other child", 0, () -> book.share(3, 7, 3, 3));
        Check.due("ended", -1, () -> book.share(1, 0, 2, 3));
        Check.due("not yet ended by entry", 3360, () -> book.share(1, 0, 2, 1));
        Check.due("not yet begun", -1, () -> book.share(2, 0, 1, 3));
        Check.due("not yet recorded", -1, () -> book.share(2, 0, 9, 1));
    }

    private static void reasons() {
        LandBook book = Book.square(10);
        book.transfer(1, 0, 1, 1, 4, 5);
        Check.due("the same person", -3, () -> book.transfer(1, 1, 1, 1, 8, 5));
        Check.due("no divisor", -3, () -> book.transfer(1, 0, 2, 1, 11, 5));
        Check.due("no divisor", -3, () -> book.transfer(1, 0, 2, 1, 5039, 5));
        Check.due("less than that", -3, () -> book.transfer(1, 1, 2, 1261, 5040, 5));
        Check.due("more than all", -3, () -> book.transfer(1, 0, 2, 5040, 1, 5));
        Check.due("more than all", -3, () -> book.transfer(1, 0, 2, 7, 6, 5));
        Check.due("late before its own reason", -2, () -> book.transfer(1, 0, 0, 1, 11, 4));
        Check.due("just that", 2, () -> book.transfer(1, 1, 2, 1260, 5040, 5));
        Book.split(book, 1, 5, 5, 0, 5, 10);
        Check.due("ended", -1, () -> book.transfer(1, 0, 2, 1, 1, 5));
        Check.due("not yet begun", -1, () -> book.transfer(2, 0, 2, 1, 1, 4));
        Check.due("on the day it began", 4, () -> book.transfer(2, 0, 2, 1, 5040, 5));
        Check.due("deeds", 4, () -> book.many(1));
    }

    private static void exceptions() {
        Check.due("no district", Book.STATE, () -> new LandBook().transfer(0, -1, -1, 0, 0, -1));
        Check.due("no district", Book.STATE, () -> new LandBook().share(0, -1, -1, -1));
        LandBook book = Book.square(10);
        Check.due("no such lot", Book.INDEX, () -> book.transfer(0, -1, -1, 0, 0, -1));
        Check.due("no such lot", Book.INDEX, () -> book.transfer(2, 0, 1, 1, 1, 0));
        int[][] wrong = {{-1, 1, 1, 1, 0}, {100, 1, 1, 1, 0}, {0, -1, 1, 1, 0}, {0, 100, 1, 1, 0}, {0, 1, 0, 1, 0},
            {0, 1, 5041, 1, 0}, {0, 1, 1, 0, 0}, {0, 1, 1, 5041, 0}, {0, 1, 1, 1, -1}, {0, 1, 1, 1, 30001},
            {0, 1, Integer.MIN_VALUE, 1, 0}, {0, 1, 1, Integer.MAX_VALUE, 0}};
        for (int[] call : wrong) {
            Check.due("transfer", Book.ARGUMENT,
                    () -> book.transfer(1, call[0], call[1], call[2], call[3], call[4]));
        }
        Check.due("no such lot", Book.INDEX, () -> book.share(2, -1, -1, -1));
        int[][] questions = {{-1, 0, 0}, {100, 0, 0}, {0, -1, 0}, {0, 30001, 0}, {0, 0, -1}};
        for (int[] call : questions) {
            Check.due("share", Book.ARGUMENT, () -> book.share(1, call[0], call[1], call[2]));
        }
        Check.due("nothing changed", 0, () -> book.many(1));
        book.crash(0);
        Check.due("down", Book.STATE, () -> book.transfer(1, 0, 1, 1, 1, 0));
        Check.due("down", Book.STATE, () -> book.share(1, 0, 0, 0));
    }
}
