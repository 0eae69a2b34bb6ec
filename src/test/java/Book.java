/** Short ways to set up a register in a test. */
final class Book {
    static final String STATE = "IllegalStateException";
    static final String INDEX = "IndexOutOfBoundsException";
    static final String ARGUMENT = "IllegalArgumentException";
    static final String UNSUPPORTED = "UnsupportedOperationException";

    private Book() {
    }

    /** Puts points into the row: x, y, x, y, .. */
    static LandBook row(LandBook book, int... coordinates) {
        for (int i = 0; i + 1 < coordinates.length; i += 2) {
            book.point(coordinates[i], coordinates[i + 1]);
        }
        return book;
    }

    static LandBook district(int... coordinates) {
        LandBook book = row(new LandBook(), coordinates);
        Check.due("open", true, book::open);
        return book;
    }

    /** A square district. */
    static LandBook square(int side) {
        return district(0, 0, side, 0, side, side, 0, side);
    }

    static int split(LandBook book, int lot, int day, int... chain) {
        return row(book, chain).split(lot, day);
    }

    /** The corners of a lot, as x,y x,y .. */
    static String ring(LandBook book, int lot) {
        StringBuilder text = new StringBuilder();
        for (int k = 0; k < book.corners(lot); k++) {
            int corner = book.corner(lot, k);
            text.append(k == 0 ? "" : " ").append(corner / 32768).append(',').append(corner % 32768);
        }
        return text.toString();
    }

    /** All words of the log. */
    static String words(LandBook book) {
        StringBuilder text = new StringBuilder();
        for (int i = 0; i < book.many(3); i++) {
            text.append(i == 0 ? "" : " ").append(book.word(i));
        }
        return text.toString();
    }
}
