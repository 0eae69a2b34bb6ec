import java.util.ArrayList;
import java.util.List;

/** The boundaries that the document names for SHARES and TRANSFER: each method is one of them. */
final class ShareEdgeTest {
    private static final String[] SQUARE = {"square 10 -> true"};

    public static void main(String[] args) {
        personsAre0To99();
        person0HasAllAtFirst();
        theyAreTheSame();
        denDivides5040();
        theFormerHasLess();
        numAndDenAre1To5040();
        moreThanAll();
        partsAreCountedExactly();
        sharesAreALotsOwn();
        lotsThatAreNotInBeing();
        theAnswerIsTheEntry();
        Check.end();
    }

    private static void personsAre0To99() {
        int[] wrong = {Integer.MIN_VALUE, -1, 100, 128, Integer.MAX_VALUE};
        for (int person : wrong) {
            Script.unchanged("no person", SQUARE, "transfer 1 " + person + " 1 1 1 0 -> argument",
                    "transfer 1 0 " + person + " 1 1 0 -> argument", "share 1 " + person + " 0 0 -> argument",
                    "transfer 1 " + person + " " + person + " 1 1 0 -> argument");
        }
        Script.run("persons", "square 10", "transfer 1 0 99 1 1 0 -> 1", "share 1 99 0 1 -> 5040", "share 1 0 0 1 -> 0",
                "transfer 1 99 0 1 2 0 -> 2", "share 1 0 0 2 -> 2520", "share 1 99 0 2 -> 2520",
                "transfer 1 0 1 1 2 0 -> 3", "transfer 1 1 98 1 2 0 -> 4", "share 1 98 0 4 -> 2520",
                "share 1 97 0 4 -> 0");
    }

    private static void person0HasAllAtFirst() {
        List<String> lines = new ArrayList<>(List.of(SQUARE));
        for (int person = 0; person < 100; person++) {
            lines.add("share 1 " + person + " 0 0 -> " + (person == 0 ? 5040 : 0));
            lines.add("share 1 " + person + " 30000 2147483647 -> " + (person == 0 ? 5040 : 0));
        }
        lines.add("transfer 1 1 0 1 5040 0 -> -3");
        lines.add("transfer 1 99 0 1 5040 0 -> -3");
        lines.add("transfer 1 0 99 5040 5040 0 -> 1");
        Script.run("at first", lines.toArray(new String[0]));
    }

    private static void theyAreTheSame() {
        Script.unchanged("the same person", Script.join(SQUARE, "transfer 1 0 99 1 2 0 -> 1"),
                "transfer 1 0 0 1 2 0 -> -3", "transfer 1 99 99 1 5040 0 -> -3", "transfer 1 5 5 1 1 0 -> -3",
                "transfer 1 0 0 1 11 0 -> -3");
    }

    /** Every den: those that 5040 is a multiple of are accepted, no other one is. */
    private static void denDivides5040() {
        for (int first = 1; first <= 5040; first += 250) {
            List<String> lines = new ArrayList<>(List.of(SQUARE));
            int entry = 0;
            for (int den = first; den < first + 250 && den <= 5040; den++) {
                boolean divides = 5040 / den * den == 5040;
                entry += divides ? 1 : 0;
                lines.add("transfer 1 0 1 1 " + den + " 0 -> " + (divides ? entry : -3));
                if (divides) {
                    entry++;
                    lines.add("transfer 1 1 0 1 " + den + " 0 -> " + entry);
                    lines.add("share 1 1 0 " + (entry - 1) + " -> " + 5040 / den);
                }
            }
            lines.add("many 1 -> " + entry);
            Script.run("den", lines.toArray(new String[0]));
        }
        // a fraction that could be told in parts, were it cut down first
        Script.run("not cut down", "square 10", "transfer 1 0 1 11 22 0 -> -3", "transfer 1 0 1 16 32 0 -> -3",
                "transfer 1 0 1 8 16 0 -> 1", "share 1 1 0 1 -> 2520");
    }

    private static void theFormerHasLess() {
        String[] third = Script.join(SQUARE, "transfer 1 0 1 1 3 0 -> 1");
        Script.run("just what he has", Script.join(third, "transfer 1 1 2 1680 5040 0 -> 2", "share 1 1 0 2 -> 0",
                "share 1 2 0 2 -> 1680", "transfer 1 1 2 1 5040 0 -> -3"));
        Script.unchanged("one part more", third, "transfer 1 1 2 1681 5040 0 -> -3", "transfer 1 1 2 841 2520 0 -> -3");
        Script.run("one part less", Script.join(third, "transfer 1 1 2 1679 5040 0 -> 2", "share 1 1 0 2 -> 1",
                "transfer 1 1 2 1 5040 0 -> 3", "share 1 2 0 3 -> 1680"));
        Script.run("what another one has does not count", Script.join(third, "transfer 1 1 0 1 2 0 -> -3",
                "transfer 1 0 1 2 3 0 -> 2", "transfer 1 1 0 1 1 0 -> 3"));
    }

    private static void numAndDenAre1To5040() {
        int[] wrong = {Integer.MIN_VALUE, -5040, -1, 0, 5041, Integer.MAX_VALUE};
        for (int term : wrong) {
            Script.unchanged("no term", SQUARE, "transfer 1 0 1 " + term + " 1 0 -> argument",
                    "transfer 1 0 1 1 " + term + " 0 -> argument",
                    "transfer 1 0 1 " + term + " " + term + " 0 -> argument");
        }
        Script.run("the least", "square 10", "transfer 1 0 1 1 1 0 -> 1", "share 1 1 0 1 -> 5040");
        Script.run("the most", "square 10", "transfer 1 0 1 5040 5040 0 -> 1", "share 1 1 0 1 -> 5040");
        Script.run("the least of the most", "square 10", "transfer 1 0 1 1 5040 0 -> 1", "share 1 1 0 1 -> 1");
        Script.run("the most of the least", "square 10", "transfer 1 0 1 5040 1 0 -> -3", "many 1 -> 0");
    }

    private static void moreThanAll() {
        Script.run("all and a bit", "square 10", "transfer 1 0 1 5040 5039 0 -> -3", "transfer 1 0 1 2521 2520 0 -> -3",
                "transfer 1 0 1 2 1 0 -> -3", "transfer 1 0 1 5040 2520 0 -> -3", "transfer 1 0 1 2520 2520 0 -> 1");
    }

    private static void partsAreCountedExactly() {
        Script.run("sums", "square 10", "transfer 1 0 1 3 7 0 -> 1", "transfer 1 0 1 5 16 0 -> 2",
                "share 1 1 0 2 -> 3735", "share 1 0 0 2 -> 1305", "transfer 1 0 2 1 9 0 -> 3", "share 1 2 0 3 -> 560",
                "share 1 0 0 3 -> 745", "transfer 1 0 2 7 48 0 -> 4", "share 1 0 0 4 -> 10",
                "transfer 1 0 2 1 504 0 -> 5", "share 1 0 0 5 -> 0", "share 1 2 0 5 -> 1305");
    }

    private static void sharesAreALotsOwn() {
        Script.run("other lots do not count", "square 10", "cut 1 0 5 0 5 10 -> 2", "transfer 3 0 1 1 1 5 -> 2",
                "transfer 2 1 2 1 5040 9 -> -3", "transfer 2 0 1 1 1 3 -> 3", "transfer 2 1 2 1 1 3 -> 4",
                "share 2 1 3 3 -> 5040", "share 2 1 3 4 -> 0", "share 2 1 2 4 -> 0", "share 3 1 4 9 -> 0",
                "share 3 1 5 9 -> 5040");
    }

    private static void lotsThatAreNotInBeing() {
        String[] halves = Script.join(SQUARE, "cut 1 10 5 0 5 10 -> 2");
        Script.run("share", Script.join(halves, "share 1 0 9 1 -> 5040", "share 1 0 10 1 -> -1",
                "share 1 0 10 0 -> 5040", "share 2 0 9 1 -> -1", "share 2 0 10 1 -> 5040", "share 2 0 10 0 -> -1",
                "share 2 99 9 1 -> -1", "share 2 99 10 1 -> 0"));
    }

    private static void theAnswerIsTheEntry() {
        Script.run("entries", "square 10", "cut 1 0 5 0 5 10 -> 2", "ease 2 3 0 -> 1", "transfer 2 0 1 1 2 0 -> 3",
                "transfer 3 0 1 1 2 0 -> 4", "merge 2 3 0 -> 4", "transfer 4 1 0 1 2 0 -> 6");
    }
}
