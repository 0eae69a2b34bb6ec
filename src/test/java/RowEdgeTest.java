/**
 * The boundaries that the document names for points, the row, rings and how they are KEPT: each
 * method is one of its sentences.
 */
final class RowEdgeTest {
    private static final int[] NEAR_COORDINATES = {Integer.MIN_VALUE, -32768, -1, 0, 1, 19999, 20000, 20001, 32768,
        65536, Integer.MAX_VALUE};

    public static void main(String[] args) {
        noDistrictAndAnEmptyRow();
        pointsHaveCoordinates0To20000();
        theRowHoldsUpTo32Points();
        noPointIsToldBeforeAFullRow();
        openEmptiesTheRow();
        splitEmptiesTheRow();
        noOtherCallReadsTheRow();
        aRingHasThreePointsOrMore();
        noSideHasLength0();
        neighboursHaveOnlyTheirCorner();
        otherSidesHaveNoPointInCommon();
        ringsThatReachFar();
        keptCounterclockwise();
        keptWithoutCornersAtWhichItGoesStraightOn();
        keptFromTheLeastCorner();
        openOnlyOnce();
        Check.end();
    }

    private static void ring(boolean is, String kept, String row) {
        if (is) {
            Script.run("a ring: " + row, "row " + row, "open -> true", "counts -> 1 0 0 0 0", "ring 1 -> " + kept,
                    "point 3 3 -> 1");
        } else {
            Script.run("no ring: " + row, "row " + row, "open -> false", "counts -> 0 0 0 0 0", "corners 1 -> state",
                    "point 3 3 -> 1");
        }
    }

    private static void noDistrictAndAnEmptyRow() {
        Script.run("a new object", "counts -> 0 0 0 0 0", "lotAt 0 0 0 0 -> state", "area2 1 0 0 -> state",
                "word 0 -> index", "point 7 7 -> 1");
        Script.run("an empty row is no ring", "open -> false", "counts -> 0 0 0 0 0", "mount -> state");
    }

    private static void pointsHaveCoordinates0To20000() {
        for (int x : NEAR_COORDINATES) {
            for (int y : NEAR_COORDINATES) {
                boolean is = x >= 0 && x <= 20000 && y >= 0 && y <= 20000;
                String point = x + " " + y;
                Script.run("coordinates", "point " + point + " -> " + (is ? "1" : "argument"),
                        "point 5 5 -> " + (is ? "2" : "1"));
                Script.run("coordinates", "square 20000 -> true",
                        "lotAt " + point + " 0 0 -> " + (is ? "1" : "argument"));
            }
        }
    }

    /** Two corners below, and 30 of a saw's teeth above them. */
    private static String saw() {
        StringBuilder row = new StringBuilder("0 0 3000 0");
        for (int k = 0; k < 30; k++) {
            row.append(' ').append(3000 - 100 * k).append(' ').append(1000 + k % 2 * 100);
        }
        return row.toString();
    }

    private static void theRowHoldsUpTo32Points() {
        Script.run("32 points", "row " + saw() + " -> 32", "point 50 900 -> unsupported", "point 50 900 -> unsupported",
                "open -> true", "corners 1 -> 32", "corner 1 0 -> 0", "corner 1 31 -> " + (100 * 32768 + 1100));
        Script.run("31 points", "row " + saw().substring(0, saw().lastIndexOf(" 100 ")) + " -> 31",
                "point 100 1100 -> 32", "point 50 900 -> unsupported", "open -> true", "corners 1 -> 32");
        Script.run("a chain of 32 points", "square 3000", "row 0 1000", "row " + chain31() + " -> 32",
                "point 1 1 -> unsupported", "split 1 0 -> 2", "many 3 -> 37", "corners 3 -> 34");
    }

    /** The rest of a saw from the left side to the right side of a square of 3000. */
    private static String chain31() {
        StringBuilder row = new StringBuilder();
        for (int k = 1; k <= 31; k++) {
            row.append(k == 1 ? "" : " ").append(k == 31 ? 3000 : 95 * k).append(' ').append(1000 + k % 2 * 100);
        }
        return row.toString();
    }

    private static void noPointIsToldBeforeAFullRow() {
        Script.run("both exceptions", "row " + saw() + " -> 32", "point -1 0 -> argument", "point 0 20001 -> argument",
                "point 0 20000 -> unsupported");
    }

    private static void openEmptiesTheRow() {
        Script.run("open answers true", "row 0 0 9 0 0 9", "open -> true", "point 1 1 -> 1");
        Script.run("open answers false", "row 0 0 9 0", "open -> false", "point 0 9 -> 1", "open -> false",
                "row 0 0 9 0 0 9", "open -> true");
        Script.run("open throws, there is a district", "square 9", "row 0 0 9 9", "open -> state", "split 1 0 -> -3",
                "row 0 0", "open -> state", "point 9 9 -> 1");
        Script.run("open throws, it is down", "square 9", "crash 0 -> 0", "row 0 0", "open -> state", "point 9 9 -> 1",
                "mount -> 0", "split 1 0 -> -3");
    }

    private static void splitEmptiesTheRow() {
        Script.run("split answers a lot", "square 9", "cut 1 5 0 0 9 9 -> 2", "point 1 1 -> 1", "split 2 5 -> -3");
        Script.run("split is refused by -1", "square 9", "cut 1 5 0 0 9 9", "cut 1 5 0 0 9 9 -> -1", "point 0 0 -> 1");
        Script.run("split is refused by -2", "square 9", "cut 1 5 0 0 9 9", "cut 1 4 0 0 9 9 -> -2", "point 0 0 -> 1");
        Script.run("split is refused by -3", "square 9", "cut 1 5 0 0 8 8 -> -3", "point 9 9 -> 1", "split 1 5 -> -3");
        Script.run("split throws, no district", "cut 1 5 0 0 9 9 -> state", "point 0 0 -> 1");
        Script.run("split throws, it is down", "square 9", "crash 0", "cut 1 5 0 0 9 9 -> state", "point 9 9 -> 1");
        Script.run("split throws, no such lot", "square 9", "cut 2 5 0 0 9 9 -> index", "point 9 9 -> 1",
                "split 1 5 -> -3");
        Script.run("split throws, no day", "square 9", "cut 1 30001 0 0 9 9 -> argument", "point 9 9 -> 1",
                "split 1 5 -> -3");
    }

    private static void noOtherCallReadsTheRow() {
        Script.run("calls that answer", "square 9", "cut 1 5 4 0 4 9 -> 2", "row 4 4", "transfer 2 0 1 1 2 5 -> 2",
                "ease 2 3 5 -> 1", "release 1 5 -> 4", "transfer 2 1 0 1 2 5 -> 5", "merge 2 3 5 -> 4",
                "lotAt 1 1 5 9 -> 4", "area2 4 5 9 -> 162", "share 4 0 5 9 -> 5040", "next 4 0 5 9 -> 0",
                "burden 4 0 5 9 -> 0", "family 4 -> 2 3 0 0", "corners 4 -> 4", "corner 4 0 -> 0",
                "counts -> 4 6 1 34 0", "word 0 -> 65541", "sync -> 34", "point 4 9 -> 2", "row 0 0",
                "split 4 5 -> -3");
        Script.run("calls that are refused, and that throw", "square 9", "row 4 0", "merge 1 1 0 -> -3",
                "transfer 1 0 0 1 1 0 -> -3", "ease 1 1 0 -> -3", "release 1 0 -> index", "merge 1 1 30001 -> argument",
                "lotAt 0 0 0 -1 -> argument", "word 0 -> index", "many 5 -> index", "crash -1 -> argument",
                "point 20001 0 -> argument", "point 4 9 -> 2", "split 1 0 -> 2");
    }

    private static void aRingHasThreePointsOrMore() {
        ring(false, "", "");
        ring(false, "", "0 0");
        ring(false, "", "0 0 4 0");
        ring(true, "0,0 4,0 0,4", "0 0 4 0 0 4");
        ring(true, "0,0 1,0 0,1", "0 0 1 0 0 1");
    }

    private static void noSideHasLength0() {
        ring(false, "", "0 0 0 0 4 0 0 4");
        ring(false, "", "0 0 4 0 4 0 0 4");
        ring(true, "0,0 4,0 4,1 0,4", "0 0 4 0 4 1 0 4");
        ring(false, "", "0 0 4 0 0 4 0 4");
        ring(false, "", "0 0 4 0 0 4 0 0");
        ring(true, "0,0 4,0 0,4", "0 0 4 0 0 4 0 1");
        ring(false, "", "5 5 5 5 5 5");
    }

    private static void neighboursHaveOnlyTheirCorner() {
        // three points on one line, in every order
        ring(false, "", "0 0 4 0 2 0");
        ring(false, "", "0 0 2 0 4 0");
        ring(false, "", "2 0 0 0 4 0");
        ring(false, "", "2 0 4 0 0 0");
        ring(false, "", "4 0 0 0 2 0");
        ring(false, "", "4 0 2 0 0 0");
        ring(false, "", "3 3 1 1 9 9");
        ring(true, "0,0 4,0 2,1", "0 0 4 0 2 1");
        ring(true, "0,0 4,0 2,1", "2 1 0 0 4 0");
        ring(false, "", "0 0 2 0 4 0 3 0");
        ring(false, "", "1 0 0 0 4 0 2 0");
        ring(false, "", "0 0 8 0 8 8 8 4");
        ring(true, "0,0 8,0 8,8 7,4", "0 0 8 0 8 8 7 4");
        // between the last side and the first one
        ring(false, "", "8 8 8 4 0 0 8 0");
        ring(true, "0,0 8,0 8,8 7,4", "8 8 7 4 0 0 8 0");
        ring(false, "", "8 4 0 0 8 0 8 8");
        // back over more than the whole side
        ring(false, "", "0 0 4 0 4 4 4 0 0 4");
        ring(false, "", "2 2 6 2 6 6 6 0 2 0");
        ring(false, "", "0 0 6 3 2 1 0 4");
        ring(true, "0,0 6,3 2,2 0,4", "0 0 6 3 2 2 0 4");
    }

    private static void otherSidesHaveNoPointInCommon() {
        // they cross
        ring(false, "", "0 0 4 4 4 0 0 4");
        ring(true, "0,0 4,0 4,4 0,4", "0 0 4 0 4 4 0 4");
        // a corner on a side
        ring(false, "", "0 0 8 0 8 8 4 0 0 8");
        ring(true, "0,0 8,0 8,8 4,1 0,8", "0 0 8 0 8 8 4 1 0 8");
        ring(false, "", "0 0 8 0 8 8 0 4 0 8");
        ring(true, "0,0 8,0 8,8 1,4 0,8", "0 0 8 0 8 8 1 4 0 8");
        // the last side, which goes to the first point
        ring(false, "", "8 8 0 4 0 8 0 0 8 0");
        ring(false, "", "0 8 0 0 8 0 8 8 0 4");
        ring(true, "0,0 8,0 8,8 1,4 0,8", "0 8 0 0 8 0 8 8 1 4");
        // a corner on a corner
        ring(false, "", "0 0 4 4 8 0 8 8 4 4 0 8");
        ring(true, "0,0 4,4 8,0 8,8 4,5 0,8", "0 0 4 4 8 0 8 8 4 5 0 8");
        ring(false, "", "0 0 4 0 3 2 5 2 4 0 8 0 8 4 0 4");
        ring(true, "0,0 4,0 3,2 5,2 5,0 8,0 8,4 0,4", "0 0 4 0 3 2 5 2 5 0 8 0 8 4 0 4");
        // a part of a line
        ring(false, "", "0 0 8 0 8 4 6 0 2 0 0 4");
        ring(true, "0,0 8,0 8,4 6,1 2,1 0,4", "0 0 8 0 8 4 6 1 2 1 0 4");
        // on one line, but apart
        ring(true, "0,0 2,0 2,2 4,2 4,0 6,0 6,4 0,4", "0 0 2 0 2 2 4 2 4 0 6 0 6 4 0 4");
        ring(true, "0,0 2,0 2,2 3,0 6,0 6,4 0,4", "0 0 2 0 2 2 3 0 6 0 6 4 0 4");
        ring(false, "", "0 0 2 0 2 2 2 0 6 0 6 4 0 4");
    }

    /** Sides as long as can be, that pass a corner as near as can be. */
    private static void ringsThatReachFar() {
        ring(false, "", "0 0 20000 1 20000 20000 10000 0");
        ring(true, "0,0 20000,1 20000,20000 10000,1", "0 0 20000 1 20000 20000 10000 1");
        ring(false, "", "0 0 20000 2 20000 20000 10000 1");
        ring(true, "0,0 20000,2 20000,20000 10000,2", "0 0 20000 2 20000 20000 10000 2");
        ring(true, "0,0 20000,19999 20000,20000", "0 0 20000 19999 20000 20000");
        ring(true, "0,0 19999,19998 20000,20000", "20000 20000 19999 19998 0 0");
        ring(false, "", "0 20000 10000 10000 20000 0");
        ring(true, "0,20000 10000,9999 20000,0", "0 20000 10000 9999 20000 0");
        ring(true, "0,20000 20000,0 10000,10001", "0 20000 10000 10001 20000 0");
    }

    private static void keptCounterclockwise() {
        String kept = "0,0 9,1 5,9 2,8";
        ring(true, kept, "0 0 9 1 5 9 2 8");
        ring(true, kept, "9 1 5 9 2 8 0 0");
        ring(true, kept, "5 9 2 8 0 0 9 1");
        ring(true, kept, "2 8 0 0 9 1 5 9");
        ring(true, kept, "2 8 5 9 9 1 0 0");
        ring(true, kept, "0 0 2 8 5 9 9 1");
        ring(true, kept, "9 1 0 0 2 8 5 9");
        ring(true, kept, "5 9 9 1 0 0 2 8");
        // most corners turn the other way
        ring(true, "0,0 10,0 6,2 5,6 4,2", "0 0 10 0 6 2 5 6 4 2");
        ring(true, "0,0 10,0 6,2 5,6 4,2", "4 2 5 6 6 2 10 0 0 0");
    }

    private static void keptWithoutCornersAtWhichItGoesStraightOn() {
        String kept = "0,0 6,0 6,6 0,6";
        ring(true, kept, "3 0 6 0 6 6 0 6 0 0");
        ring(true, kept, "0 0 6 0 6 6 0 6 0 3");
        ring(true, kept, "0 0 1 0 2 0 5 0 6 0 6 6 0 6");
        ring(true, kept, "0 3 0 0 3 0 6 0 6 3 6 6 3 6 0 6");
        ring(true, kept, "0 3 0 6 3 6 6 6 6 3 6 0 3 0 0 0");
        ring(true, "0,0 6,0 0,6", "0 0 6 0 5 1 3 3 1 5 0 6");
        // it bends by as little as can be
        ring(true, "0,0 6,0 6,6 3,5 0,6", "0 0 6 0 6 6 3 5 0 6");
        ring(true, "0,0 20000,1 20000,20000 10000,9999", "0 0 20000 1 20000 20000 10000 9999");
        ring(true, "0,0 20000,1 20000,20000", "0 0 20000 1 20000 20000 10000 10000");
    }

    private static void keptFromTheLeastCorner() {
        ring(true, "1,5 4,2 7,5 4,8", "4 2 7 5 4 8 1 5");
        // of those with the least x the least y
        ring(true, "2,1 9,5 2,8", "2 8 2 1 9 5");
        ring(true, "2,1 9,5 2,8", "9 5 2 8 2 1");
        ring(true, "0,0 9,9 0,8 3,5 0,2", "0 2 0 0 9 9 0 8 3 5");
        // another corner has the least y
        ring(true, "0,9 5,0 9,9", "5 0 9 9 0 9");
        // a corner at which it goes straight on does not count
        ring(true, "2,1 9,5 2,8", "2 5 2 1 9 5 2 8");
    }

    private static void openOnlyOnce() {
        Script.run("there is a district", "square 9 -> true", "square 9 -> state", "row 0 0", "open -> state",
                "open -> state", "area2 1 0 0 -> 162", "counts -> 1 0 0 0 0");
        Script.run("it is down", "square 9 -> true", "crash 0 -> 0", "square 9 -> state", "mount -> 0",
                "square 9 -> state", "area2 1 0 0 -> 162");
        Script.run("after a row that is no ring", "row 0 0 9 0 4 0", "open -> false", "square 9 -> true",
                "counts -> 1 0 0 0 0", "share 1 0 0 0 -> 5040");
    }
}
