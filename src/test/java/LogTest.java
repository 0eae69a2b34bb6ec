/** Promises 18 to 22: many, word, sync, crash, mount. */
final class LogTest {
    public static void main(String[] args) {
        records();
        longSums();
        counts();
        everyCut();
        syncedWordsStay();
        goesOnAfterMount();
        rowStays();
        mountsAreCounted();
        exceptions();
        Check.end();
    }

    /** One deed of each kind, with entries 1 to 5. */
    private static LandBook allKinds() {
        LandBook book = Book.square(100);
        Check.due("split", 2, () -> Book.split(book, 1, 10, 50, 0, 40, 50, 50, 100));
        Check.due("transfer", 2, () -> book.transfer(2, 0, 7, 1, 3, 12));
        Check.due("ease", 1, () -> book.ease(3, 2, 13));
        Check.due("release", 4, () -> book.release(1, 14));
        Check.due("transfer", 5, () -> book.transfer(3, 0, 7, 1, 3, 15));
        Check.due("merge", 4, () -> book.merge(3, 2, 16));
        return book;
    }

    private static String record(int... body) {
        StringBuilder text = new StringBuilder();
        long sum = 0;
        for (int i = 0; i < body.length; i++) {
            text.append(body[i]).append(' ');
            sum += (long) body[i] * (i + 1);
        }
        return text.append(-2147483648L + body.length).append(' ').append(-2147483648L + sum % 2147483648L).toString();
    }

    private static void records() {
        String due = String.join(" ",
                record(65536 + 6, 32768 + 10, 1, 50 * 32768, 40 * 32768 + 50, 50 * 32768 + 100),
                record(3 * 65536 + 4, 2 * 32768 + 12, 2 * 16384 + 7, 1680),
                record(4 * 65536 + 3, 3 * 32768 + 13, 3 * 65536 + 2),
                record(5 * 65536 + 3, 4 * 32768 + 14, 1),
                record(3 * 65536 + 4, 5 * 32768 + 15, 3 * 16384 + 7, 1680),
                record(2 * 65536 + 3, 6 * 32768 + 16, 3 * 65536 + 2));
        LandBook book = allKinds();
        Check.due("the log", due, () -> Book.words(book));
        Check.due("words", 35, () -> book.many(3));
        Check.due("behind the log", Book.INDEX, () -> book.word(35));
        Check.due("before the log", Book.INDEX, () -> book.word(-1));
        Check.due("a transfer from 99 to 98", 16384 + 99 * 128 + 98, () -> {
            LandBook other = Book.square(10);
            other.transfer(1, 0, 99, 1, 1, 0);
            other.transfer(1, 99, 98, 1, 5040, 0);
            return other.word(8);
        });
    }

    /** A sum that is above 2147483648, and one that int arithmetic would spoil. */
    private static void longSums() {
        LandBook book = Book.square(20000);
        int[] chain = new int[64];
        int[] body = new int[35];
        body[0] = 65536 + 35;
        body[1] = 32768 + 30000;
        body[2] = 1;
        for (int i = 0; i < 32; i++) {
            chain[2 * i] = i == 0 ? 20000 : 19999 - i % 2;
            chain[2 * i + 1] = i == 31 ? 20000 : 100 * i + 100;
            body[3 + i] = chain[2 * i] * 32768 + chain[2 * i + 1];
        }
        Check.due("split", 2, () -> Book.split(book, 1, 30000, chain));
        Check.due("the log", record(body), () -> Book.words(book));
        Check.due("crash", 37, () -> book.crash(37));
        Check.due("mount", 1, () -> book.mount());
    }

    private static void counts() {
        LandBook book = allKinds();
        counted(book, 4, 6, 1, 35, 0);
        Check.due("sync", 35, () -> book.sync());
        Check.due("sync again", 0, () -> book.sync());
        counted(book, 4, 6, 1, 35, 35);
        Check.due("split", 5, () -> Book.split(book, 4, 20, 0, 0, 100, 100));
        counted(book, 6, 7, 1, 42, 35);
        Check.due("crash", 38, () -> book.crash(3));
        counted(book, 6, 7, 1, 38, 35);
        Check.due("a word when it is down", 65536 + 5, () -> book.word(35));
        Check.due("a word that is lost", Book.INDEX, () -> book.word(38));
        Check.due("mount", 6, () -> book.mount());
        counted(book, 4, 6, 1, 35, 35);
        Check.due("other counts", Book.INDEX, () -> book.many(5));
        Check.due("other counts", Book.INDEX, () -> book.many(-1));
    }

    private static void counted(LandBook book, int... due) {
        for (int what = 0; what < due.length; what++) {
            int it = what;
            Check.due("many " + it, due[it], () -> book.many(it));
        }
    }

    /** Tears the log at each of its words, and compares with a register that never had the rest. */
    private static void everyCut() {
        int[] ends = {0, 8, 14, 19, 24, 30, 35};
        int[] lots = {1, 3, 3, 3, 3, 3, 4};
        int[] easements = {0, 0, 0, 1, 1, 1, 1};
        for (int k = 0; k <= 36; k++) {
            int kept = Math.min(k, 35);
            LandBook book = allKinds();
            String words = Book.words(book);
            Check.due("crash", kept, () -> book.crash(kept == 35 ? Integer.MAX_VALUE : kept));
            int whole = 0;
            while (whole < 6 && ends[whole + 1] <= kept) {
                whole++;
            }
            int deeds = whole;
            Check.due("mount", deeds, () -> book.mount());
            counted(book, lots[deeds], deeds, easements[deeds], ends[deeds], ends[deeds]);
            Check.due("words", true, () -> words.startsWith(Book.words(book)));
            Check.due("area of lot 1", deeds < 1 ? 20000 : -1, () -> book.area2(1, 30000, 600));
            Check.due("share", deeds < 1 ? Book.INDEX : deeds == 6 ? -1 : deeds < 2 ? 0 : 1680,
                    () -> book.share(2, 7, 30000, 600));
            Check.due("burden", deeds < 1 ? Book.INDEX : deeds == 6 ? -1 : deeds == 3 ? 1 : 0,
                    () -> book.burden(3, 0, 30000, 600));
            Check.due("child", deeds < 1 ? 0 : 2, () -> book.child(1, 0));
            Check.due("child", deeds < 1 ? Book.INDEX : deeds == 6 ? 4 : 0, () -> book.child(2, 0));
        }
    }

    private static void syncedWordsStay() {
        LandBook book = allKinds();
        book.sync();
        Check.due("crash", 35, () -> book.crash(0));
        Check.due("mount", 6, () -> book.mount());
        book.transfer(4, 0, 1, 1, 2, 30);
        Check.due("mount when it is not down", 7, () -> book.mount());
        counted(book, 4, 7, 1, 41, 41);
        Check.due("all was synced by the mount", 41, () -> book.crash(0));
        Check.due("mount", 7, () -> book.mount());
        Check.due("share", 840, () -> book.share(4, 0, 30, 7));
        Check.due("share", 2520, () -> book.share(4, 1, 30, 7));
    }

    /** What was undone can be done anew, in another way, and is not late. */
    private static void goesOnAfterMount() {
        LandBook book = Book.square(10);
        Book.split(book, 1, 5, 5, 0, 5, 10);
        book.sync();
        book.ease(2, 3, 20);
        book.release(1, 25);
        book.crash(5);
        Check.due("mount", 2, () -> book.mount());
        Check.due("it stands again", 1, () -> book.burden(2, 0, 25, 9));
        Check.due("released on another day", 3, () -> book.release(1, 22));
        Check.due("still late", -2, () -> book.transfer(3, 0, 1, 1, 1, 19));
        Check.due("crash", 16, () -> book.crash(4));
        Check.due("mount", 2, () -> book.mount());
        Check.due("merge", 4, () -> book.merge(2, 3, 20));
        Check.due("crash", 12, () -> book.crash(0));
        Check.due("mount", 2, () -> book.mount());
        Check.due("split instead", 4, () -> Book.split(book, 2, 21, 7, 0, 7, 10));
        Check.due("it has the entry of the merge", 3 * 32768 + 21, () -> book.word(13));
        Check.due("the district is not in the log", 0, () -> {
            LandBook other = Book.square(10);
            other.crash(0);
            return other.mount();
        });
        LandBook free = Book.square(10);
        free.transfer(1, 0, 1, 1, 2, 9);
        free.crash(0);
        free.mount();
        Check.due("not late any more", 1, () -> free.transfer(1, 0, 2, 1, 2, 8));
    }

    private static void rowStays() {
        LandBook book = Book.square(10);
        Book.row(book, 5, 0);
        book.crash(0);
        Check.due("point when it is down", 2, () -> book.point(5, 10));
        book.mount();
        Check.due("the row is not read", 2, () -> book.split(1, 0));
    }

    private static void mountsAreCounted() {
        LandBook book = Book.square(10);
        for (int i = 0; i < 40; i++) {
            Check.due("mount", 0, () -> book.mount());
        }
        Check.due("mounted 40 times", Book.UNSUPPORTED, () -> book.mount());
        Check.due("transfer", 1, () -> book.transfer(1, 0, 1, 1, 1, 0));
        Check.due("crash", 0, () -> book.crash(0));
        Check.due("mounted 40 times", Book.UNSUPPORTED, () -> book.mount());
        Check.due("still down", Book.STATE, () -> book.sync());
        Check.due("deeds as before the crash", 1, () -> book.many(1));
    }

    private static void exceptions() {
        LandBook book = new LandBook();
        Check.due("no district", Book.STATE, () -> book.sync());
        Check.due("no district", Book.STATE, () -> book.crash(-1));
        Check.due("no district", Book.STATE, () -> book.mount());
        Check.due("no word", Book.INDEX, () -> book.word(0));
        LandBook down = Book.square(10);
        Check.due("negative", Book.ARGUMENT, () -> down.crash(-1));
        Check.due("not down by that", 0, () -> down.sync());
        down.crash(0);
        Check.due("down", Book.STATE, () -> down.crash(0));
        Check.due("down", Book.STATE, () -> down.crash(-1));
        Check.due("down", Book.STATE, () -> down.sync());
        Check.due("no word", Book.INDEX, () -> down.word(0));
    }
}
