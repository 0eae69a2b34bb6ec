import java.util.ArrayList;
import java.util.List;

/**
 * Runs of calls on a new object, written as lines: a call and its arguments, and what is due behind
 * an arrow, an answer or the short name of an exception. A line without an arrow is only made.
 * Beside the calls of the face there are some words that stand for many calls, see {@link #words}.
 */
final class Script {
    private static final int MOST_CALLS = 512;
    private static final int LAST_DAY = 30000;

    private final LandBook book = new LandBook();
    private int calls;

    private Script() {
    }

    static void run(String name, String... lines) {
        new Script().play(name, lines);
    }

    /** Looks whether more calls leave everything as it is without them. */
    static void unchanged(String name, String[] lines, String... more) {
        same(name, lines, join(lines, more));
    }

    /** Looks whether everything is the same after two runs. */
    static void same(String name, String[] lines, String[] others) {
        Script one = new Script();
        one.play(name, lines);
        Script other = new Script();
        other.play(name, others);
        String due = one.everything();
        Check.due(name + ": everything", due, other::everything);
        one.fewCalls(name);
        other.fewCalls(name);
    }

    /** Lines, and more lines behind them. */
    static String[] join(String[] lines, String... more) {
        List<String> all = new ArrayList<>(List.of(lines));
        all.addAll(List.of(more));
        return all.toArray(new String[0]);
    }

    private void play(String name, String... lines) {
        for (String line : lines) {
            String[] sides = line.split(" *-> *");
            String[] said = sides[0].trim().split(" +");
            int[] numbers = new int[said.length - 1];
            for (int i = 0; i < numbers.length; i++) {
                numbers[i] = Integer.parseInt(said[1 + i]);
            }
            Object answer = Check.answerOf(() -> words(said[0], numbers));
            if (sides.length > 1) {
                Check.due(name + ": " + sides[0].trim(), due(sides[1].trim()), () -> answer);
            } else if (answer instanceof String text && text.endsWith("Exception")) {
                Check.due(name + ": " + line, "an answer", () -> answer);
            }
        }
        fewCalls(name);
    }

    private void fewCalls(String name) {
        Check.that(name + ": at most 512 calls, not " + calls, calls <= MOST_CALLS);
    }

    private static String due(String text) {
        return switch (text) {
            case "state" -> Book.STATE;
            case "index" -> Book.INDEX;
            case "argument" -> Book.ARGUMENT;
            case "unsupported" -> Book.UNSUPPORTED;
            default -> text;
        };
    }

    /**
     * row x y x y ..: puts points; square s: opens a square district; cut lot day x y x y ..: puts
     * points and splits; ring lot: its corners; counts: what many answers; log: all words;
     * near, burdens lot day entry: all answers of next and burden up to the one that is no number;
     * family lot: both parents and both children; everything: all that can be asked.
     */
    private Object words(String word, int[] n) {
        switch (word) {
            case "row":
                return row(n, 0);
            case "square":
                row(new int[] {0, 0, n[0], 0, n[0], n[0], 0, n[0]}, 0);
                return call("open");
            case "cut":
                row(n, 2);
                return call("split", n[0], n[1]);
            case "ring":
                return ring(n[0]);
            case "counts":
                return counts();
            case "log":
                return log();
            case "near":
                return list("next", n);
            case "burdens":
                return list("burden", n);
            case "family":
                return call("parent", n[0], 0) + " " + call("parent", n[0], 1) + " " + call("child", n[0], 0) + " "
                        + call("child", n[0], 1);
            case "everything":
                return everything();
            default:
                return call(word, n);
        }
    }

    private Object row(int[] n, int from) {
        Object size = "none";
        for (int i = from; i + 1 < n.length; i += 2) {
            size = call("point", n[i], n[i + 1]);
        }
        return size;
    }

    private int number(String name, int... n) {
        return (Integer) call(name, n);
    }

    private String ring(int lot) {
        StringBuilder text = new StringBuilder();
        int corners = number("corners", lot);
        for (int k = 0; k < corners; k++) {
            int corner = number("corner", lot, k);
            text.append(k == 0 ? "" : " ").append(corner / 32768).append(',').append(corner % 32768);
        }
        return text.toString();
    }

    private String counts() {
        StringBuilder text = new StringBuilder();
        for (int what = 0; what < 5; what++) {
            text.append(what == 0 ? "" : " ").append(call("many", what));
        }
        return text.toString();
    }

    private String log() {
        StringBuilder text = new StringBuilder();
        int size = number("many", 3);
        for (int i = 0; i < size; i++) {
            text.append(i == 0 ? "" : " ").append(call("word", i));
        }
        return text.toString();
    }

    private String list(String name, int[] n) {
        StringBuilder text = new StringBuilder();
        int found = 1;
        for (int i = 0; i <= 300 && found > 0; i++) {
            found = number(name, n[0], i, n[1], n[2]);
            text.append(i == 0 ? "" : " ").append(found);
        }
        return text.toString();
    }

    /** All that can be asked of a register that is up, as of the last day, and the row's size. */
    private String everything() {
        StringBuilder text = new StringBuilder(counts()).append("; ").append(log());
        int lots = number("many", 0);
        for (int lot = 1; lot <= lots; lot++) {
            text.append("; ").append(lot).append(": ").append(ring(lot));
            text.append(" area ").append(call("area2", lot, LAST_DAY, 600));
            for (int person = 0; person < 4; person++) {
                text.append(" has ").append(call("share", lot, person, LAST_DAY, 600));
            }
            int[] asked = {lot, LAST_DAY, 600};
            text.append(" near ").append(list("next", asked)).append(" burdens ").append(list("burden", asked));
            text.append(" family ").append(words("family", asked));
        }
        return text.append("; row ").append(call("point", 0, 0)).toString();
    }

    private Object call(String name, int... n) {
        calls++;
        switch (name) {
            case "point":
                return book.point(n[0], n[1]);
            case "open":
                return book.open();
            case "split":
                return book.split(n[0], n[1]);
            case "merge":
                return book.merge(n[0], n[1], n[2]);
            case "transfer":
                return book.transfer(n[0], n[1], n[2], n[3], n[4], n[5]);
            case "ease":
                return book.ease(n[0], n[1], n[2]);
            case "release":
                return book.release(n[0], n[1]);
            case "lotAt":
                return book.lotAt(n[0], n[1], n[2], n[3]);
            case "area2":
                return book.area2(n[0], n[1], n[2]);
            case "share":
                return book.share(n[0], n[1], n[2], n[3]);
            case "next":
                return book.next(n[0], n[1], n[2], n[3]);
            case "burden":
                return book.burden(n[0], n[1], n[2], n[3]);
            default:
                return timeless(name, n);
        }
    }

    /** Calls that are not asked as of a day. */
    private Object timeless(String name, int... n) {
        switch (name) {
            case "parent":
                return book.parent(n[0], n[1]);
            case "child":
                return book.child(n[0], n[1]);
            case "corners":
                return book.corners(n[0]);
            case "corner":
                return book.corner(n[0], n[1]);
            case "many":
                return book.many(n[0]);
            case "word":
                return book.word(n[0]);
            case "sync":
                return book.sync();
            case "crash":
                return book.crash(n[0]);
            case "mount":
                return book.mount();
            default:
                throw new AssertionError("no such call: " + name);
        }
    }
}
