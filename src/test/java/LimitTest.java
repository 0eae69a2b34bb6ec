/** The refusal -4: lots, easements, corners, and (beyond an object's 512 calls) deeds. */
final class LimitTest {
    public static void main(String[] args) {
        lots();
        easements();
        cornersOfSplits();
        cornersOfMerges();
        cornersAreCountedAsKept();
        deedsAndWords();
        Check.end();
    }

    /** Cuts strips off the right until there are so many lots. */
    private static LandBook strips(int lots) {
        LandBook book = Book.square(20000);
        int x = 20000;
        int rest = 1;
        while (book.many(0) < lots) {
            x -= 100;
            Book.split(book, rest, 0, x, 0, x, 20000);
            rest = book.many(0);
        }
        return book;
    }

    private static void lots() {
        LandBook book = strips(299);
        Check.due("lots", 299, () -> book.many(0));
        Check.due("its own reason comes first", -3, () -> Book.split(book, 299, 0, 50, 0));
        Check.due("two more", -4, () -> Book.split(book, 299, 0, 50, 0, 50, 20000));
        Check.due("the row is empty", 1, () -> book.point(0, 0));
        Check.due("one more", 300, () -> book.merge(298, 299, 0));
        Check.due("one more", -4, () -> book.merge(296, 300, 0));
        Check.due("its own reason comes first", -3, () -> book.merge(300, 2, 0));
        Check.due("ended comes first", -1, () -> book.merge(298, 299, 0));
        Check.due("deeds", 150, () -> book.many(1));
        Check.due("no lot is begun by this", 151, () -> book.transfer(300, 0, 1, 1, 1, 0));
    }

    private static void easements() {
        LandBook book = strips(3);
        for (int i = 1; i <= 200; i++) {
            int it = i;
            Check.due("ease", it, () -> book.ease(2, 3, 1));
        }
        Check.due("one more", -4, () -> book.ease(2, 3, 1));
        Check.due("its own reason comes first", -3, () -> book.ease(2, 2, 1));
        Check.due("late comes first", -2, () -> book.ease(2, 3, 0));
        Check.due("release", 202, () -> book.release(200, 1));
        Check.due("released ones count, too", -4, () -> book.ease(2, 3, 1));
        Check.due("the last of them", 199, () -> book.burden(2, 198, 1, 999));
        Check.due("no more", 0, () -> book.burden(2, 199, 1, 999));
        Check.due("split", 4, () -> Book.split(book, 2, 2, 19950, 0, 19950, 20000));
        Check.due("taken over", 199, () -> book.burden(5, 198, 2, 999));
    }

    /** A chain up the middle with so many bends to and fro. */
    private static int[] zigzag(int x, int bends, int top) {
        int[] chain = new int[2 * (bends + 2)];
        for (int i = 0; i < bends + 2; i++) {
            chain[2 * i] = x + (i % 2) * 10;
            chain[2 * i + 1] = i == bends + 1 ? top : i * 10;
        }
        return chain;
    }

    private static void cornersOfSplits() {
        LandBook book = Book.square(1000);
        Check.due("the most that a row holds", 2, () -> Book.split(book, 1, 0, zigzag(500, 30, 1000)));
        Check.due("corners", 34, () -> book.corners(2));
        Check.due("corners", 34, () -> book.corners(3));
        LandBook sixty = Book.square(1000);
        Book.split(sixty, 1, 0, zigzag(500, 30, 1000));
        Check.due("60 corners", 4, () -> Book.split(sixty, 3, 0, zigzag(300, 26, 1000)));
        Check.due("corners", 60, () -> Math.max(sixty.corners(4), sixty.corners(5)));
        LandBook more = Book.square(1000);
        Book.split(more, 1, 0, zigzag(500, 30, 1000));
        Check.due("61 corners", -4, () -> Book.split(more, 3, 0, zigzag(300, 27, 1000)));
        Check.due("nothing changed", 3, () -> more.many(0));
        Check.due("nothing changed", 1, () -> more.many(1));
        Check.due("the other piece alone has too many", -4, () -> Book.split(more, 2, 0, zigzag(700, 27, 1000)));
    }

    private static void cornersOfMerges() {
        for (int bends = 26; bends <= 30; bends++) {
            int more = bends;
            LandBook book = Book.square(1000);
            Book.split(book, 1, 0, zigzag(500, 30, 1000));      // 2 right, 3 left
            Book.split(book, 2, 0, 600, 0, 600, 1000);          // 4 right, 5 in the middle
            Book.split(book, 4, 0, zigzag(700, more, 1000));    // 6 right, 7 left
            Check.due("merge", 30 + more + 4 > 60 ? -4 : 8, () -> book.merge(5, 7, 0));
            Check.due("lots", 30 + more + 4 > 60 ? 7 : 8, () -> book.many(0));
        }
    }

    /** More than 60 points come together, but most of them lie on straight lines. */
    private static void cornersAreCountedAsKept() {
        LandBook book = Book.square(1000);
        Book.split(book, 1, 0, zigzag(500, 30, 1000));          // 2 right, 3 left
        int[] straight = new int[64];
        for (int i = 0; i < 32; i++) {
            straight[2 * i] = 300;
            straight[2 * i + 1] = i == 31 ? 1000 : 10 * i;
        }
        Check.due("split", 4, () -> Book.split(book, 3, 0, straight));
        Check.due("corners", 34, () -> book.corners(4));
        Check.due("corners", 4, () -> book.corners(5));
        Check.due("merge", 6, () -> book.merge(2, 4, 0));
        Check.due("corners", 4, () -> book.corners(6));
    }

    /** Nothing is promised beyond 512 calls, but nothing may break either. */
    private static void deedsAndWords() {
        LandBook book = strips(3);
        Check.due("ease", 1, () -> book.ease(2, 3, 0));
        for (int i = 3; i <= 600; i++) {
            int it = i;
            Check.due("transfer", it, () -> book.transfer(2, (it + 1) % 2, it % 2, 1, 1, 0));
        }
        Check.due("one more transfer", -4, () -> book.transfer(2, 0, 1, 1, 1, 0));
        Check.due("its own reason comes first", -3, () -> book.transfer(2, 1, 0, 1, 1, 0));
        Check.due("one more split", -4, () -> Book.split(book, 3, 0, 50, 0, 50, 20000));
        Check.due("one more merge", -4, () -> book.merge(2, 3, 0));
        Check.due("one more easement", -4, () -> book.ease(3, 2, 0));
        Check.due("one more release", -4, () -> book.release(1, 0));
        Check.due("words", 3600, () -> book.many(3));
        Check.due("mount", 600, () -> book.mount());
        Check.due("it stands still", 1, () -> book.burden(2, 0, 0, 600));
    }
}
