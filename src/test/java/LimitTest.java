import java.util.ArrayList;
import java.util.List;

/**
 * The refusal -4: lots, easements and corners, at the last one that there is room for and at the
 * first one that there is none for. 600 deeds and 12000 words are out of reach of 512 calls.
 */
final class LimitTest {
    public static void main(String[] args) {
        noMoreThan300LotsBySplits();
        noMoreThan300LotsByMerges();
        otherDeedsNeedNoLot();
        roomAfterACrash();
        noMoreThan200Easements();
        otherDeedsNeedNoEasement();
        noMoreThan60CornersOfTheLesserLot();
        noMoreThan60CornersOfTheGreaterLot();
        noMoreThan60CornersOfAMergedLot();
        cornersOfASplitAsTheyAreKept();
        cornersOfAMergeAsTheyAreKept();
        aLineThatEndsOnSidesOfALotOf60Corners();
        otherRefusalsComeFirst();
        aRefusedDeedChangesNothing();
        manyDeeds();
        Check.end();
    }

    /** Strips cut off the right: after n of these splits the rest is lot 2n + 1, the last strip lot 2n. */
    private static String[] strips(int splits) {
        List<String> lines = new ArrayList<>(List.of("square 20000 -> true"));
        for (int i = 1; i <= splits; i++) {
            int x = 20000 - 100 * i;
            lines.add("cut " + (2 * i - 1) + " 0 " + x + " 0 " + x + " 20000 -> " + 2 * i);
        }
        return lines.toArray(new String[0]);
    }

    private static void noMoreThan300LotsBySplits() {
        Script.run("298 lots and two more", Script.join(strips(148), "merge 296 297 0 -> 298", "many 0 -> 298",
                "cut 298 0 50 0 50 20000 -> 299", "many 0 -> 300", "cut 300 0 20 0 20 20000 -> -4", "many 0 -> 300",
                "corners 300 -> 4", "area2 300 0 999 -> 2000000", "corners 301 -> index"));
        Script.run("299 lots and two more", Script.join(strips(149), "cut 299 0 50 0 50 20000 -> -4", "many 0 -> 299",
                "point 5 5 -> 1"));
    }

    private static void noMoreThan300LotsByMerges() {
        Script.run("299 lots and one more", Script.join(strips(149), "many 0 -> 299", "merge 298 299 0 -> 300",
                "many 0 -> 300", "merge 296 300 0 -> -4", "many 0 -> 300", "many 1 -> 150"));
    }

    private static void otherDeedsNeedNoLot() {
        Script.run("300 lots", Script.join(strips(149), "merge 298 299 0 -> 300", "transfer 300 0 1 1 1 0 -> 151",
                "ease 300 2 0 -> 1", "release 1 0 -> 153", "transfer 300 1 0 1 1 0 -> 154", "merge 300 296 0 -> -4"));
    }

    private static void roomAfterACrash() {
        Script.run("300 lots, of which a crash leaves some", Script.join(strips(148), "sync -> 1036",
                "merge 296 297 0 -> 298", "cut 298 0 50 0 50 20000 -> 299", "cut 300 0 20 0 20 20000 -> -4",
                "crash 5 -> 1041", "mount -> 149", "many 0 -> 298", "cut 298 0 60 0 60 20000 -> 299",
                "cut 300 0 20 0 20 20000 -> -4", "many 0 -> 300"));
    }

    private static String[] eased(int easements) {
        List<String> lines = new ArrayList<>(List.of(strips(1)));
        for (int i = 1; i <= easements; i++) {
            lines.add("ease 2 3 1 -> " + i);
        }
        return lines.toArray(new String[0]);
    }

    private static void noMoreThan200Easements() {
        Script.run("200 easements", Script.join(eased(199), "ease 3 2 1 -> 200", "ease 3 2 1 -> -4", "ease 2 3 1 -> -4",
                "many 2 -> 200", "burden 3 0 1 999 -> 200", "burden 2 198 1 999 -> 199", "burden 2 199 1 999 -> 0"));
        Script.run("released ones are counted, too", Script.join(eased(200), "release 200 1 -> 202",
                "ease 2 3 1 -> -4", "many 2 -> 200", "burden 2 198 1 999 -> 199", "burden 2 199 1 999 -> 0",
                "burden 2 199 1 201 -> 200", "burden 2 200 1 201 -> 0"));
        Script.run("room after a crash", Script.join(eased(199), "sync -> 1002", "ease 2 3 1 -> 200",
                "ease 2 3 1 -> -4", "crash 4 -> 1006", "mount -> 200", "many 2 -> 199", "ease 3 2 1 -> 200",
                "ease 3 2 1 -> -4"));
    }

    private static void otherDeedsNeedNoEasement() {
        Script.run("200 easements", Script.join(eased(200), "transfer 2 0 1 1 1 1 -> 202",
                "transfer 3 0 1 1 1 1 -> 203", "cut 2 2 19950 0 19950 20000 -> 4", "burden 5 199 2 999 -> 200",
                "burden 4 200 2 999 -> 0", "merge 4 5 2 -> 6", "burden 6 199 2 999 -> 200", "release 1 2 -> 206",
                "burden 6 0 2 999 -> 2"));
    }

    /** A chain upwards with so many bends to and fro, and so many points on its last side. */
    private static String saw(int x, int bends, int straight) {
        StringBuilder chain = new StringBuilder();
        for (int i = 0; i <= bends; i++) {
            chain.append(x + i % 2 * 10).append(' ').append(10 * i).append(' ');
        }
        int last = x + bends % 2 * 10;
        for (int i = 1; i <= straight; i++) {
            chain.append(last).append(' ').append(10 * (bends + i)).append(' ');
        }
        return chain.append(last).append(" 1000").toString();
    }

    /** Lot 2 to the right, lot 3 to the left of a saw with 29 bends: 33 corners each. */
    private static final String[] SAWN = {"square 1000 -> true", "cut 1 0 " + saw(500, 29, 0) + " -> 2"};

    private static void noMoreThan60CornersOfTheLesserLot() {
        Script.run("33 corners each", Script.join(SAWN, "corners 2 -> 33", "corners 3 -> 33"));
        Script.run("60 corners", Script.join(SAWN, "cut 3 0 " + saw(300, 27, 0) + " -> 4", "corners 4 -> 60",
                "corners 5 -> 31"));
        Script.run("61 corners", Script.join(SAWN, "cut 3 0 " + saw(300, 28, 0) + " -> -4", "counts -> 3 1 0 36 0",
                "point 1 1 -> 1"));
    }

    private static void noMoreThan60CornersOfTheGreaterLot() {
        Script.run("60 corners", Script.join(SAWN, "cut 2 0 " + saw(700, 27, 0) + " -> 4", "corners 4 -> 31",
                "corners 5 -> 60"));
        Script.run("61 corners", Script.join(SAWN, "cut 2 0 " + saw(700, 28, 0) + " -> -4", "counts -> 3 1 0 36 0",
                "point 1 1 -> 1"));
    }

    private static void noMoreThan60CornersOfAMergedLot() {
        String[] more = Script.join(SAWN, "cut 2 0 600 0 600 1000 -> 4");
        // lot 5 between the saw and x = 600, lot 7 between that and another saw
        Script.run("60 corners", Script.join(more, "cut 4 0 " + saw(700, 27, 0) + " -> 6", "merge 5 7 0 -> 8",
                "corners 8 -> 60"));
        Script.run("61 corners", Script.join(more, "cut 4 0 " + saw(700, 28, 0) + " -> 6", "merge 5 7 0 -> -4",
                "merge 7 5 0 -> -4", "many 0 -> 7", "many 1 -> 3", "corners 5 -> 33", "next 5 0 0 9 -> 3"));
    }

    private static void cornersOfASplitAsTheyAreKept() {
        Script.run("60 corners and points on straight lines", Script.join(SAWN, "cut 3 0 " + saw(300, 27, 3) + " -> 4",
                "corners 4 -> 60", "corners 5 -> 31"));
        Script.run("61 corners and points on straight lines", Script.join(SAWN,
                "cut 3 0 " + saw(300, 28, 2) + " -> -4"));
    }

    private static void cornersOfAMergeAsTheyAreKept() {
        // two lots of 60 and of 33 corners, whose saw between them is gone behind the merge
        Script.run("a few are left", Script.join(SAWN, "cut 3 0 " + saw(300, 27, 0) + " -> 4", "corners 4 -> 60",
                "corners 2 -> 33", "merge 2 4 0 -> 6", "corners 6 -> 31"));
    }

    /** Lot 4 has 60 corners; the line ends in the middle of its sides, so that there are 62 points on its ring. */
    private static void aLineThatEndsOnSidesOfALotOf60Corners() {
        String[] between = Script.join(SAWN, "cut 3 0 " + saw(300, 27, 0) + " -> 4", "cut 2 0 505 15 1000 15 -> 6",
                "cut 7 0 505 265 1000 265 -> 8");
        Script.run("60 corners and two points", Script.join(between, "corners 4 -> 60", "corners 8 -> 29",
                "merge 4 8 0 -> 10", "corners 10 -> 39", "near 10 0 99 -> 5 6 9 0"));
        Script.run("the other way round", Script.join(between, "merge 8 4 0 -> 10", "corners 10 -> 39",
                "corner 10 0 -> " + 300 * 32768, "corner 10 2 -> " + (510 * 32768 + 10)));
    }

    private static void otherRefusalsComeFirst() {
        Script.run("300 lots", Script.join(strips(149), "merge 298 299 1 -> 300", "cut 299 1 50 0 50 20000 -> -1",
                "cut 299 0 50 0 50 20000 -> -2", "cut 300 1 50 0 50 19999 -> -3", "cut 300 1 50 0 50 20000 -> -4",
                "merge 298 299 1 -> -1", "merge 298 299 0 -> -2", "merge 300 2 1 -> -3", "merge 300 300 1 -> -3",
                "merge 300 296 1 -> -4"));
        Script.run("200 easements", Script.join(eased(200), "ease 1 2 1 -> -1", "ease 2 3 0 -> -2", "ease 2 2 1 -> -3",
                "ease 2 3 1 -> -4"));
        Script.run("61 corners, and shares that differ", Script.join(SAWN, "cut 2 0 600 0 600 1000 -> 4",
                "cut 4 0 " + saw(700, 28, 0) + " -> 6", "transfer 7 0 1 1 5040 3 -> 4", "merge 5 7 2 -> -2",
                "merge 5 7 3 -> -3", "transfer 7 1 0 1 5040 3 -> 5", "merge 5 7 3 -> -4"));
    }

    private static void aRefusedDeedChangesNothing() {
        Script.unchanged("61 corners", Script.join(SAWN, "sync -> 36"), "cut 3 0 " + saw(300, 28, 0) + " -> -4",
                "cut 2 0 " + saw(700, 28, 0) + " -> -4");
    }

    /** As many deeds as the calls allow: none of them is one too many. */
    private static void manyDeeds() {
        List<String> lines = new ArrayList<>(List.of("square 10 -> true"));
        for (int i = 1; i <= 500; i++) {
            lines.add("transfer 1 " + (i - 1) % 100 + " " + i % 100 + " 1 1 " + 60 * i + " -> " + i);
        }
        lines.add("counts -> 1 500 0 3000 0");
        lines.add("share 1 0 30000 500 -> 5040");
        lines.add("word 2999 -> " + lastWord(500, 16384 + 99 * 128));
        Script.run("500 deeds", lines.toArray(new String[0]));
    }

    private static int lastWord(int entry, int text) {
        long sum = 3 * 65536 + 4 + 2L * (entry * 32768 + 60 * entry) + 3L * text + 4L * 5040;
        return (int) (-2147483648L + sum % 2147483648L);
    }
}
