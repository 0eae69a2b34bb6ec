import java.util.ArrayList;
import java.util.List;

/**
 * The boundaries that the document names for SPLIT: each method is one part of its sentences, with
 * a chain that is refused and one beside it that is not.
 */
final class SplitEdgeTest {
    /** Corners and middles of the sides of a square of 10, counterclockwise. */
    private static final int[][] WHEEL = {{0, 0}, {5, 0}, {10, 0}, {10, 5}, {10, 10}, {5, 10}, {0, 10}, {0, 5}};

    private static final String SQUARE = "10 10 30 10 30 30 10 30";
    /** A square with a notch from above, whose tip is 6,4. */
    private static final String NOTCH = "0 0 12 0 12 12 6 4 0 12";

    public static void main(String[] args) {
        lessThanTwoPoints();
        endsAreTwoDifferentPoints();
        endsArePointsOfTheRing();
        anotherPointIsNotWithin();
        aSideOfLength0();
        sidesThatCross();
        sidesThatTouch();
        neighboursThatGoBack();
        aSideThatMeetsTheRing();
        aSideThatMeetsTheRingFarAway();
        aSideAlongTheRing();
        runsOutside();
        fromAnyPointOfTheRingToAnyOther();
        fromTheLastSideToTheFirst();
        theLesserNumberLiesAtTheRight();
        straightCorners();
        theSharesOfTheParent();
        theBurdensOfTheParent();
        theChainsOfLotsThatWereSplit();
        Check.end();
    }

    private static void refused(String district, String chain) {
        String[] opened = {"row " + district, "open -> true"};
        Script.unchanged("refused: " + chain, opened, "cut 1 0 " + chain + " -> -3", "row 7 7 -> 1", "split 1 0 -> -3");
    }

    private static void fits(String district, String chain, String lesser, String greater) {
        Script.run("fits: " + chain, "row " + district, "open -> true", "cut 1 0 " + chain + " -> 2",
                "ring 2 -> " + lesser, "ring 3 -> " + greater, "many 0 -> 3", "many 1 -> 1", "area2 1 0 1 -> -1",
                "family 1 -> 0 0 2 3", "family 2 -> 1 0 0 0", "family 3 -> 1 0 0 0", "point 7 7 -> 1");
    }

    private static void lessThanTwoPoints() {
        refused(SQUARE, "");
        refused(SQUARE, "20 10");
        fits(SQUARE, "20 10 20 30", "20,10 30,10 30,30 20,30", "10,10 20,10 20,30 10,30");
    }

    private static void endsAreTwoDifferentPoints() {
        refused(SQUARE, "20 10 20 10");
        refused(SQUARE, "20 10 20 20 25 20 20 10");
        refused(SQUARE, "10 10 20 20 20 15 10 10");
        fits(SQUARE, "20 10 20 20 25 20 21 10", "20,10 21,10 25,20 20,20",
                "10,10 20,10 20,20 25,20 21,10 30,10 30,30 10,30");
    }

    private static void endsArePointsOfTheRing() {
        refused(SQUARE, "20 11 20 30");
        refused(SQUARE, "20 9 20 30");
        refused(SQUARE, "20 10 20 29");
        refused(SQUARE, "20 10 20 31");
        refused(SQUARE, "20 20 25 25");
        refused(SQUARE, "0 0 40 40");
        // in line with a side, but not on it
        refused(SQUARE, "9 10 20 30");
        refused(SQUARE, "20 30 31 10");
        refused(SQUARE, "10 31 20 10");
        fits(SQUARE, "10 10 20 30", "10,10 30,10 30,30 20,30", "10,10 20,30 10,30");
        fits(SQUARE, "20 30 30 10", "10,10 30,10 20,30 10,30", "20,30 30,10 30,30");
        fits(SQUARE, "10 30 20 10", "10,10 20,10 10,30", "10,30 20,10 30,10 30,30");
        fits(SQUARE, "11 10 10 11", "10,11 11,10 30,10 30,30 10,30", "10,10 11,10 10,11");
        // of a slanted side
        refused("0 0 12 6 0 12", "4 1 0 6");
        refused("0 0 12 6 0 12", "4 3 0 6");
        fits("0 0 12 6 0 12", "4 2 0 6", "0,6 4,2 12,6 0,12", "0,0 4,2 0,6");
        refused("0 0 20000 1 20000 20000", "10000 1 20000 10000");
        refused("0 0 20000 1 20000 20000", "10000 0 20000 10000");
    }

    private static void anotherPointIsNotWithin() {
        refused(SQUARE, "20 10 31 20 20 30");
        refused(SQUARE, "20 10 30 20 20 30");
        fits(SQUARE, "20 10 29 20 20 30", "20,10 30,10 30,30 20,30 29,20", "10,10 20,10 29,20 20,30 10,30");
        refused(SQUARE, "20 10 30 30 10 30");
        fits(SQUARE, "20 10 29 29 10 30", "10,30 29,29 20,10 30,10 30,30", "10,10 20,10 29,29 10,30");
        refused(SQUARE, "20 10 25 10 20 30");
        refused(SQUARE, "20 10 25 9 20 30");
        fits(SQUARE, "20 10 25 11 20 30", "20,10 30,10 30,30 20,30 25,11", "10,10 20,10 25,11 20,30 10,30");
        // only the last one of many
        refused(SQUARE, "20 10 20 12 20 14 20 16 9 20 20 30");
        refused(NOTCH, "0 3 6 5 12 3");
        refused(NOTCH, "0 3 6 4 12 3");
        fits(NOTCH, "0 2 6 3 12 2", "0,0 12,0 12,2 6,3 0,2",
                "0,2 6,3 12,2 12,12 6,4 0,12");
    }

    private static void aSideOfLength0() {
        refused(SQUARE, "20 10 20 10 20 30");
        refused(SQUARE, "20 10 20 30 20 30");
        refused(SQUARE, "20 10 20 20 20 20 20 30");
        fits(SQUARE, "20 10 20 20 20 21 20 30", "20,10 30,10 30,30 20,30", "10,10 20,10 20,30 10,30");
    }

    private static void sidesThatCross() {
        refused("0 0 20 0 20 20 0 20", "10 0 10 12 16 12 16 6 4 6 0 6");
        refused("0 0 20 0 20 20 0 20", "10 0 10 12 16 12 16 6 9 6 0 3");
        fits("0 0 20 0 20 20 0 20", "10 0 10 12 16 12 16 6 20 6",
                "10,0 20,0 20,6 16,6 16,12 10,12", "0,0 10,0 10,12 16,12 16,6 20,6 20,20 0,20");
        // the last side crosses the first one
        refused("0 0 20 0 20 20 0 20", "10 0 10 8 14 8 14 4 0 4");
        refused("0 0 20 0 20 20 0 20", "8 0 12 8 12 4 0 4");
        refused("0 0 20 0 20 20 0 20", "0 0 12 12 12 4 4 12 0 12");
    }

    private static void sidesThatTouch() {
        refused("0 0 20 0 20 20 0 20", "10 0 10 12 16 12 16 6 10 6 14 3 20 3");
        fits("0 0 20 0 20 20 0 20", "10 0 10 12 16 12 16 6 11 6 14 3 20 3",
                "10,0 20,0 20,3 14,3 11,6 16,6 16,12 10,12",
                "0,0 10,0 10,12 16,12 16,6 11,6 14,3 20,3 20,20 0,20");
        // a point of it again
        refused("0 0 20 0 20 20 0 20", "10 0 10 12 16 12 16 6 10 12 0 12");
        refused("0 0 20 0 20 20 0 20", "10 0 10 5 14 5 14 9 10 5 0 5");
        fits("0 0 20 0 20 20 0 20", "10 0 10 5 14 5 14 9 9 5 0 5",
                "0,5 9,5 14,9 14,5 10,5 10,0 20,0 20,20 0,20", "0,0 10,0 10,5 14,5 14,9 9,5 0,5");
        // along a part of a side
        refused("0 0 20 0 20 20 0 20", "10 0 10 12 14 12 10 8 10 4 20 4");
        fits("0 0 20 0 20 20 0 20", "10 0 10 12 14 12 11 8 11 4 20 4", "10,0 20,0 20,4 11,4 11,8 14,12 10,12",
                "0,0 10,0 10,12 14,12 11,8 11,4 20,4 20,20 0,20");
    }

    private static void neighboursThatGoBack() {
        refused("0 0 20 0 20 20 0 20", "10 0 10 12 10 6 20 6");
        fits("0 0 20 0 20 20 0 20", "10 0 10 12 11 6 20 6", "10,0 20,0 20,6 11,6 10,12",
                "0,0 10,0 10,12 11,6 20,6 20,20 0,20");
        refused("0 0 20 0 20 20 0 20", "10 0 10 12 10 0 20 6");
        refused("0 0 20 0 20 20 0 20", "10 0 12 6 16 18 10 0");
        refused("0 0 20 0 20 20 0 20", "10 0 12 6 16 18 14 12 20 12");
        // straight on is not back
        fits("0 0 20 0 20 20 0 20", "10 0 10 6 10 12 10 20", "10,0 20,0 20,20 10,20", "0,0 10,0 10,20 0,20");
    }

    private static void aSideThatMeetsTheRing() {
        // it passes the notch's tip
        refused(NOTCH, "0 4 12 4");
        fits(NOTCH, "0 3 12 3", "0,0 12,0 12,3 0,3", "0,3 12,3 12,12 6,4 0,12");
        refused(NOTCH, "1 3 0 4 11 4 12 3");
        refused(NOTCH, "0 3 1 4 11 4 12 3");
        fits(NOTCH, "0 2 1 3 11 3 12 2", "0,0 12,0 12,2 11,3 1,3 0,2", "0,2 1,3 11,3 12,2 12,12 6,4 0,12");
        // it ends at the tip
        fits(NOTCH, "0 4 6 4", "0,0 12,0 12,12 6,4 0,4", "0,4 6,4 0,12");
        fits(NOTCH, "6 4 12 4", "0,0 12,0 12,4 6,4 0,12", "6,4 12,4 12,12");
        fits(NOTCH, "6 4 6 0", "0,0 6,0 6,4 0,12", "6,0 12,0 12,12 6,4");
        // it passes through the whole notch
        refused(NOTCH, "0 8 12 8");
        refused(NOTCH, "0 5 12 5");
        // the first and the last side meet the ring once more, behind the end
        refused(NOTCH, "0 8 6 0 12 8");
        refused(NOTCH, "2 0 10 8 12 8");
    }

    /** A notch's tip as near as can be beside a chain as long as can be, from 0,1 to 20000,19999. */
    private static void aSideThatMeetsTheRingFarAway() {
        String[] tips = {"10000 10000", "9999 9999", "10001 10000", "9998 9998"};
        for (String tip : tips) {
            refused("0 0 20000 0 20000 20000 " + tip + " 0 20000", "0 1 20000 19999");
        }
        String[] above = {"10000 10001", "9999 10000", "10001 10001", "9998 9999"};
        for (String tip : above) {
            fits("0 0 20000 0 20000 20000 " + tip + " 0 20000", "0 1 20000 19999",
                    "0,0 20000,0 20000,19999 0,1", "0,1 20000,19999 20000,20000 " + tip.replace(' ', ',') + " 0,20000");
        }
    }

    private static void aSideAlongTheRing() {
        refused(SQUARE, "10 10 30 10");
        refused(SQUARE, "12 10 28 10");
        refused(SQUARE, "10 10 11 10");
        refused(SQUARE, "29 10 30 10");
        refused(SQUARE, "10 12 10 30");
        fits(SQUARE, "12 10 20 11 28 10", "12,10 28,10 20,11", "10,10 12,10 20,11 28,10 30,10 30,30 10,30");
        refused(NOTCH, "0 12 6 4");
        refused(NOTCH, "3 8 6 4");
        refused(NOTCH, "0 12 9 0");
        fits(NOTCH, "0 11 6 4", "0,0 12,0 12,12 6,4 0,11", "0,11 6,4 0,12");
    }

    private static void runsOutside() {
        // the chord lies outside, along the ring, within
        refused("0 0 12 0 12 12 6 11 0 12", "0 12 12 12");
        refused("0 0 12 0 12 12 6 12 0 12", "0 12 12 12");
        fits("0 0 12 0 12 12 6 13 0 12", "0 12 12 12", "0,0 12,0 12,12 0,12", "0,12 12,12 6,13");
        fits("0 0 12 0 12 12 6 13 0 12", "12 12 0 12", "0,12 12,12 6,13", "0,0 12,0 12,12 0,12");
        refused(NOTCH, "0 12 12 12");
        refused(NOTCH, "3 8 9 8");
        refused(NOTCH, "9 8 3 8");
        // a notch as narrow as can be
        refused("0 0 20000 0 20000 20000 10001 20000 10000 1 10000 20000 0 20000", "10000 20000 10001 20000");
        refused("0 0 20000 0 20000 20000 10001 20000 10000 1 10000 20000 0 20000", "10000 10000 20000 10000");
        fits("0 0 20000 0 20000 20000 10001 20000 10000 1 10000 20000 0 20000", "10000 1 10000 0",
                "0,0 10000,0 10000,20000 0,20000", "10000,0 20000,0 20000,20000 10001,20000 10000,1");
    }

    private static String point(int[] point) {
        return " " + point[0] + " " + point[1];
    }

    /** The ring along the wheel between two of its points, and back through the middle, or straight. */
    private static String piece(int from, int to, boolean middle) {
        List<int[]> points = new ArrayList<>();
        for (int k = 0; k <= (to - from + 8) % 8; k++) {
            points.add(WHEEL[(from + k) % 8]);
        }
        if (middle) {
            points.add(new int[] {5, 5});
        }
        List<String> corners = new ArrayList<>();
        int least = 0;
        for (int i = 0; i < points.size(); i++) {
            int[] a = points.get((i + points.size() - 1) % points.size());
            int[] b = points.get(i);
            int[] c = points.get((i + 1) % points.size());
            if ((b[0] - a[0]) * (c[1] - b[1]) != (b[1] - a[1]) * (c[0] - b[0])) {
                corners.add(b[0] + "," + b[1]);
                int[] low = points.get(least);
                least = b[0] < low[0] || b[0] == low[0] && b[1] < low[1] ? i : least;
            }
        }
        String first = points.get(least)[0] + "," + points.get(least)[1];
        while (!corners.get(0).equals(first)) {
            corners.add(corners.remove(0));
        }
        return String.join(" ", corners);
    }

    /** Whether two points of the wheel lie on one side. */
    private static boolean onOneSide(int from, int to) {
        int ahead = (to - from + 8) % 8;
        return from % 2 == 0 ? ahead <= 2 || ahead >= 6 : ahead == 1 || ahead == 7;
    }

    private static void fromAnyPointOfTheRingToAnyOther() {
        for (int from = 0; from < 8; from++) {
            for (int to = 0; to < 8; to++) {
                String straight = (point(WHEEL[from]) + point(WHEEL[to])).trim();
                String bent = (point(WHEEL[from]) + " 5 5" + point(WHEEL[to])).trim();
                if (from == to) {
                    refused("0 0 10 0 10 10 0 10", straight);
                    refused("0 0 10 0 10 10 0 10", bent);
                    continue;
                }
                fits("0 0 10 0 10 10 0 10", bent, piece(from, to, true), piece(to, from, true));
                if (onOneSide(from, to)) {
                    refused("0 0 10 0 10 10 0 10", straight);
                } else {
                    fits("0 0 10 0 10 10 0 10", straight, piece(from, to, false), piece(to, from, false));
                }
                Script.run("merged again", "square 10", "cut 1 0 " + bent + " -> 2",
                        from < to ? "merge 2 3 0 -> 4" : "merge 3 2 0 -> 4", "ring 4 -> 0,0 10,0 10,10 0,10",
                        "area2 4 0 2 -> 200");
            }
        }
    }

    /** The ring as it is KEPT begins at 0,0: the chain leaves its last side for its first one, and back. */
    private static void fromTheLastSideToTheFirst() {
        fits("0 0 10 0 10 10 0 10", "0 1 1 0", "0,0 1,0 0,1", "0,1 1,0 10,0 10,10 0,10");
        fits("0 0 10 0 10 10 0 10", "1 0 0 1", "0,1 1,0 10,0 10,10 0,10", "0,0 1,0 0,1");
        fits("0 0 10 0 10 10 0 10", "0 9 1 5 0 1", "0,1 1,5 0,9", "0,0 10,0 10,10 0,10 0,9 1,5 0,1");
        fits("0 0 10 0 10 10 0 10", "0 1 1 5 0 9", "0,0 10,0 10,10 0,10 0,9 1,5 0,1", "0,1 1,5 0,9");
        fits("0 0 10 0 10 10 0 10", "0 10 1 5 0 0", "0,0 1,5 0,10", "0,0 10,0 10,10 0,10 1,5");
        fits("0 0 10 0 10 10 0 10", "0 0 1 5 0 10", "0,0 10,0 10,10 0,10 1,5", "0,0 1,5 0,10");
    }

    private static void theLesserNumberLiesAtTheRight() {
        Script.run("upwards", "square 10", "cut 1 0 5 0 5 10 -> 2", "lotAt 9 5 0 1 -> 2", "lotAt 1 5 0 1 -> 3");
        Script.run("downwards", "square 10", "cut 1 0 5 10 5 0 -> 2", "lotAt 9 5 0 1 -> 3", "lotAt 1 5 0 1 -> 2");
        Script.run("to the right", "square 10", "cut 1 0 0 5 10 5 -> 2", "lotAt 5 9 0 1 -> 3", "lotAt 5 1 0 1 -> 2");
        Script.run("to the left", "square 10", "cut 1 0 10 5 0 5 -> 2", "lotAt 5 9 0 1 -> 2", "lotAt 5 1 0 1 -> 3");
    }

    private static void straightCorners() {
        // the chain goes on straight from a side of the ring, and from its own
        fits("0 0 10 0 10 10 5 5 0 10", "10 0 7 3 5 5", "5,5 10,0 10,10", "0,0 10,0 0,10");
        fits("0 0 6 2 12 0 12 10", "6 2 12 4", "6,2 12,0 12,4", "0,0 12,4 12,10");
        fits("0 0 6 2 12 0 12 10", "6 2 12 5", "6,2 12,0 12,5", "0,0 6,2 12,5 12,10");
    }

    private static void theSharesOfTheParent() {
        Script.run("of the very day", "square 10", "transfer 1 0 99 1 5040 7 -> 1", "cut 1 7 5 0 5 10 -> 2",
                "share 2 99 7 2 -> 1", "share 3 99 7 2 -> 1", "share 2 0 7 2 -> 5039", "share 3 0 7 2 -> 5039",
                "share 2 1 7 2 -> 0", "transfer 2 99 0 1 5040 7 -> 3", "share 2 99 7 3 -> 0", "share 3 99 7 3 -> 1",
                "share 2 99 7 2 -> 1", "share 1 99 7 1 -> 1", "share 1 99 6 1 -> 0");
    }

    private static void theBurdensOfTheParent() {
        String[] burdened = {"square 10", "cut 1 0 5 0 5 10 -> 2", "ease 2 3 5 -> 1", "ease 2 3 7 -> 2",
            "ease 3 2 7 -> 3"};
        Script.run("of the very day", Script.join(burdened, "cut 2 7 5 5 10 5 -> 4", "burdens 4 7 9 -> 1 2 0",
                "burdens 5 7 9 -> 1 2 0", "burdens 3 7 9 -> 3 0", "burdens 4 6 9 -> -1", "burdens 2 6 9 -> 1 0"));
        Script.run("not what was released on the day", Script.join(burdened, "release 1 7 -> 5",
                "cut 2 7 5 5 10 5 -> 4", "burdens 4 7 9 -> 2 0", "burdens 5 7 9 -> 2 0", "burdens 2 6 9 -> 1 0",
                "burdens 2 7 4 -> 1 2 0"));
        Script.run("what is released later", Script.join(burdened, "cut 2 7 5 5 10 5 -> 4", "release 1 7 -> 6",
                "burdens 4 7 5 -> 1 2 0", "burdens 4 7 6 -> 2 0", "burdens 5 7 6 -> 2 0"));
        Script.run("not what the other half gets afterwards", Script.join(burdened, "cut 2 7 5 5 10 5 -> 4",
                "ease 4 5 7 -> 4", "burdens 4 7 9 -> 1 2 4 0", "burdens 5 7 9 -> 1 2 0"));
    }

    private static void theChainsOfLotsThatWereSplit() {
        // a chain must lie within its own lot, not only within the district
        Script.run("in half a square", "square 10", "cut 1 0 5 0 5 10 -> 2", "cut 2 0 0 5 10 5 -> -3",
                "cut 2 0 5 5 10 5 -> 4", "cut 3 0 0 5 10 5 -> -3", "cut 3 0 0 5 5 5 -> 6",
                "ring 4 -> 5,0 10,0 10,5 5,5", "ring 6 -> 0,0 5,0 5,5 0,5", "cut 4 0 7 0 7 10 -> -3",
                "cut 4 0 7 0 7 5 -> 8");
    }
}
