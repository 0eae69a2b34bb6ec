/**
 * The boundaries that the document names for lotAt, area2, next, parent, child, corners and corner:
 * each method is one of them.
 */
final class PlaceEdgeTest {
    /** Lots 4 (below) and 5 (above) at the right, 6 (below) and 7 (above) at the left; a square from 10 to 30. */
    private static final String[] QUARTERS = {"row 10 10 30 10 30 30 10 30", "open -> true", "cut 1 0 20 10 20 30 -> 2",
        "cut 2 0 20 20 30 20 -> 4", "cut 3 0 10 20 20 20 -> 6"};

    public static void main(String[] args) {
        onTheRingAndBesideIt();
        onASlantedRingAndBesideIt();
        theLeastNumber();
        noneOutside();
        corners0To20000();
        besideCornersAndTips();
        areasFromTheLeastToTheMost();
        areaWhenItIsNotInBeing();
        aLineNotJustPoints();
        theIthNeighbour();
        neighboursInBeing();
        nextWhenItIsNotInBeing();
        iIs0Or1();
        parentsByNumber();
        childrenByNumber();
        cornersOfALotThatEnded();
        cornerKOfTheRing();
        Check.end();
    }

    private static void places(String[] lines, int lot, int... points) {
        for (int i = 0; i < points.length; i += 2) {
            Script.run("a place", Script.join(lines,
                    "lotAt " + points[i] + " " + points[i + 1] + " 0 99 -> " + lot));
        }
    }

    private static void onTheRingAndBesideIt() {
        String[] square = {"row 10 10 30 10 30 30 10 30", "open -> true"};
        places(square, 1, 10, 10, 30, 10, 30, 30, 10, 30, 20, 10, 30, 20, 20, 30, 10, 20, 11, 11, 29, 29, 11, 10, 10,
                11, 29, 30, 30, 29, 20, 20);
        places(square, 0, 9, 10, 10, 9, 31, 10, 30, 9, 31, 30, 30, 31, 9, 30, 10, 31, 20, 9, 31, 20, 20, 31, 9, 20, 9,
                9, 31, 31, 0, 10, 0, 30, 20000, 10, 20000, 30, 10, 0, 10, 20000, 0, 20, 20000, 20);
    }

    private static void onASlantedRingAndBesideIt() {
        String[] triangle = {"row 0 0 12 6 0 12", "open -> true"};
        places(triangle, 1, 4, 2, 2, 1, 12, 6, 4, 10, 11, 6, 0, 6, 3, 2, 5, 3, 10, 5);
        places(triangle, 0, 3, 1, 5, 2, 13, 6, 12, 5, 12, 7, 11, 5, 1, 0, 1, 12, 9, 4);
        String[] sliver = {"row 0 0 20000 19999 20000 20000", "open -> true"};
        places(sliver, 1, 0, 0, 1, 1, 10000, 10000, 19999, 19999, 20000, 19999, 20000, 20000);
        places(sliver, 0, 1, 0, 0, 1, 10000, 9999, 10000, 10001, 19999, 19998, 20000, 19998, 19999, 20000);
    }

    private static void theLeastNumber() {
        places(QUARTERS, 4, 20, 20, 20, 10, 20, 15, 25, 20, 30, 20, 21, 19);
        places(QUARTERS, 5, 20, 21, 20, 30, 21, 21, 30, 30);
        places(QUARTERS, 6, 19, 20, 10, 20, 19, 19, 10, 10);
        places(QUARTERS, 7, 19, 21, 10, 21, 10, 30);
        // a merged lot has the greatest number, though it lies first
        String[] merged = Script.join(QUARTERS, "merge 6 4 0 -> 8");
        places(merged, 5, 20, 20, 25, 20, 30, 20);
        places(merged, 7, 19, 20, 10, 20);
        places(merged, 8, 20, 19, 20, 10, 10, 10);
    }

    private static void noneOutside() {
        Script.run("whatever the day and the entry", Script.join(QUARTERS, "lotAt 9 20 0 0 -> 0",
                "lotAt 9 20 30000 99 -> 0", "lotAt 31 20 0 1 -> 0", "lotAt 10 20 0 0 -> 1", "lotAt 10 20 0 1 -> 3",
                "lotAt 10 20 0 2 -> 3", "lotAt 10 20 0 3 -> 6"));
        // between the arms of a C
        String[] c = {"row 0 0 12 0 12 3 4 3 4 9 12 9 12 12 0 12", "open -> true"};
        places(c, 0, 5, 4, 12, 4, 8, 6, 5, 8, 12, 8, 13, 0, 13, 12);
        places(c, 1, 4, 4, 4, 3, 4, 9, 12, 3, 12, 9, 8, 3, 8, 9, 3, 6, 0, 6, 12, 10);
    }

    private static void corners0To20000() {
        String[] all = {"square 20000 -> true"};
        places(all, 1, 0, 0, 20000, 0, 20000, 20000, 0, 20000, 1, 1, 19999, 19999, 10000, 20000, 20000, 10000);
        Script.run("no points", Script.join(all, "lotAt -1 0 0 0 -> argument", "lotAt 0 -1 0 0 -> argument",
                "lotAt 20001 0 0 0 -> argument", "lotAt 0 20001 0 0 -> argument",
                "lotAt 2147483647 0 0 0 -> argument", "lotAt 0 -2147483648 0 0 -> argument"));
    }

    /** Points level with corners, where the ring goes up and down, up and on, or level. */
    private static void besideCornersAndTips() {
        String[] teeth = {"row 2 0 4 4 6 0 8 4 10 0 10 9 6 5 2 9", "open -> true"};
        places(teeth, 1, 2, 4, 3, 4, 4, 4, 5, 4, 6, 4, 8, 4, 10, 4, 2, 5, 6, 5, 10, 5, 6, 0, 2, 0, 10, 0, 2, 9, 10, 9);
        places(teeth, 0, 0, 4, 1, 4, 11, 4, 0, 5, 1, 5, 11, 5, 0, 0, 1, 0, 3, 0, 4, 0, 5, 0, 8, 0, 11, 0, 0, 9, 5, 9,
                6, 9, 11, 9, 4, 3, 8, 3, 6, 6);
        String[] steps = {"row 0 0 9 0 9 3 6 3 6 6 3 6 3 9 0 9", "open -> true"};
        places(steps, 1, 6, 3, 7, 3, 9, 3, 3, 6, 6, 6, 5, 6, 0, 3, 0, 6, 3, 9, 5, 3, 2, 6);
        places(steps, 0, 7, 4, 10, 3, 7, 6, 9, 6, 4, 7, 4, 9, 10, 0, 6, 7);
    }

    private static void areasFromTheLeastToTheMost() {
        Script.run("the most", "square 20000", "area2 1 0 0 -> 800000000");
        Script.run("the least", "row 0 0 1 0 0 1", "open -> true", "area2 1 0 0 -> 1");
        Script.run("the least, as long as can be", "row 0 0 19999 20000 20000 20000", "open -> true",
                "area2 1 0 0 -> 20000");
        Script.run("the least between far points", "row 0 0 20000 19999 19999 19998", "open -> true",
                "area2 1 0 0 -> 1");
        Script.run("the least, far away", "row 20000 20000 20000 19999 19999 20000", "open -> true",
                "area2 1 0 0 -> 1");
        Script.run("clockwise", "row 0 20000 20000 20000 20000 0 0 0", "open -> true", "area2 1 0 0 -> 800000000");
        Script.run("both parts", "square 20000", "cut 1 0 0 0 20000 1 -> 2", "area2 2 0 1 -> 20000",
                "area2 3 0 1 -> 799980000", "merge 2 3 0 -> 4", "area2 4 0 2 -> 800000000");
    }

    private static void areaWhenItIsNotInBeing() {
        Script.run("before, while and after", "square 10", "cut 1 5 5 0 5 10 -> 2", "cut 2 7 5 5 10 5 -> 4",
                "area2 2 4 9 -> -1", "area2 2 5 9 -> 100", "area2 2 6 9 -> 100", "area2 2 7 9 -> -1",
                "area2 2 7 1 -> 100", "area2 2 7 0 -> -1", "area2 1 5 0 -> 200", "area2 1 5 1 -> -1");
    }

    private static void aLineNotJustPoints() {
        Script.run("quarters", Script.join(QUARTERS, "near 4 0 9 -> 5 6 0", "near 5 0 9 -> 4 7 0",
                "near 6 0 9 -> 4 7 0", "near 7 0 9 -> 5 6 0"));
        // the line between 4 and 7 has length 1, or they have a point in common, or nothing
        String[] heights = {"19", "20", "21"};
        String[] due = {"5 6 7 0", "5 6 0", "5 6 0"};
        for (int i = 0; i < heights.length; i++) {
            Script.run("a line of length 1", "row 10 10 30 10 30 30 10 30", "open -> true", "cut 1 0 20 10 20 30 -> 2",
                    "cut 2 0 20 20 30 20 -> 4", "cut 3 0 10 " + heights[i] + " 20 " + heights[i] + " -> 6",
                    "near 4 0 9 -> " + due[i]);
        }
        // a tip on a side is a point
        Script.run("a tip", "square 12", "cut 1 0 0 6 12 6 -> 2", "cut 3 0 4 12 6 6 -> 4", "cut 5 0 6 6 8 12 -> 6",
                "ring 4 -> 0,6 6,6 4,12 0,12", "ring 6 -> 6,6 12,6 12,12 8,12", "ring 7 -> 4,12 6,6 8,12",
                "near 2 0 9 -> 4 6 0", "near 7 0 9 -> 4 6 0");
    }

    private static void theIthNeighbour() {
        Script.run("i from 0 on", Script.join(QUARTERS, "next 4 0 0 9 -> 5", "next 4 1 0 9 -> 6", "next 4 2 0 9 -> 0",
                "next 4 3 0 9 -> 0", "next 4 2147483647 0 9 -> 0", "next 4 -1 0 9 -> argument",
                "next 4 -2147483648 0 9 -> argument"));
        Script.run("none at all", "square 10", "next 1 0 0 0 -> 0", "next 1 1 0 0 -> 0");
    }

    private static void neighboursInBeing() {
        String[] days = {"square 12", "cut 1 5 6 0 6 12 -> 2", "cut 3 9 0 6 6 6 -> 4"};
        Script.run("by day and by entry", Script.join(days, "near 2 8 2 -> 3 0", "near 2 9 2 -> 4 5 0",
                "near 2 9 1 -> 3 0", "near 2 30000 1 -> 3 0", "near 2 5 2 -> 3 0", "near 3 8 2 -> 2 0",
                "near 4 9 2 -> 2 5 0"));
        Script.run("neither itself nor its parents", Script.join(days, "near 1 4 2 -> 0", "near 1 5 0 -> 0",
                "near 5 9 2 -> 2 4 0"));
    }

    private static void nextWhenItIsNotInBeing() {
        Script.run("-1 for every i", "square 12", "cut 1 5 6 0 6 12 -> 2", "next 1 0 5 1 -> -1", "next 1 9 5 1 -> -1",
                "next 2 0 4 1 -> -1", "next 2 0 5 0 -> -1", "next 2 2147483647 4 1 -> -1", "next 2 0 5 1 -> 3",
                "next 1 0 4 1 -> 0");
    }

    private static void iIs0Or1() {
        int[] wrong = {Integer.MIN_VALUE, -1, 2, Integer.MAX_VALUE};
        for (int i : wrong) {
            Script.run("another i", Script.join(QUARTERS, "parent 4 " + i + " -> index", "child 1 " + i + " -> index",
                    "parent 8 " + i + " -> index", "child 0 " + i + " -> index"));
        }
        Script.run("0 and 1", Script.join(QUARTERS, "parent 4 0 -> 2", "parent 4 1 -> 0", "child 1 0 -> 2",
                "child 1 1 -> 3", "child 4 0 -> 0", "child 4 1 -> 0", "parent 1 0 -> 0", "parent 1 1 -> 0"));
    }

    private static void parentsByNumber() {
        Script.run("of a merge, whichever is called first", Script.join(QUARTERS, "merge 6 4 0 -> 8",
                "merge 5 7 0 -> 9", "parent 8 0 -> 4", "parent 8 1 -> 6", "parent 9 0 -> 5", "parent 9 1 -> 7",
                "merge 9 8 0 -> 10", "parent 10 0 -> 8", "parent 10 1 -> 9"));
        Script.run("of a split", Script.join(QUARTERS, "family 6 -> 3 0 0 0", "family 7 -> 3 0 0 0",
                "family 2 -> 1 0 4 5"));
    }

    private static void childrenByNumber() {
        Script.run("of a split and of a merge", Script.join(QUARTERS, "child 2 0 -> 4", "child 2 1 -> 5",
                "merge 6 4 0 -> 8", "child 4 0 -> 8", "child 4 1 -> 0", "child 6 0 -> 8", "child 6 1 -> 0",
                "child 5 0 -> 0"));
        // whatever the day: there is no as of
        Script.run("on the last day", "square 10", "child 1 0 -> 0", "cut 1 30000 5 0 5 10 -> 2", "child 1 0 -> 2",
                "child 1 1 -> 3", "parent 2 0 -> 1");
        Script.run("taken back by a mount", "square 10", "cut 1 0 5 0 5 10 -> 2", "crash 6 -> 6", "mount -> 0",
                "child 1 0 -> 0", "child 1 1 -> 0", "parent 2 0 -> index");
    }

    private static void cornersOfALotThatEnded() {
        Script.run("corners", Script.join(QUARTERS, "corners 1 -> 4", "corners 2 -> 4",
                "ring 1 -> 10,10 30,10 30,30 10,30", "ring 2 -> 20,10 30,10 30,30 20,30", "corners 7 -> 4",
                "corners 8 -> index", "corners 0 -> index", "corners -1 -> index"));
    }

    private static void cornerKOfTheRing() {
        Script.run("k", Script.join(QUARTERS, "corner 1 0 -> " + (10 * 32768 + 10),
                "corner 1 3 -> " + (10 * 32768 + 30), "corner 1 4 -> index", "corner 1 -1 -> index",
                "corner 1 2147483647 -> index", "corner 1 -2147483648 -> index", "corner 8 0 -> index",
                "corner 0 0 -> index", "corner 8 4 -> index"));
        Script.run("three of them", "row 0 0 20000 0 20000 20000", "open -> true", "corner 1 2 -> 655380000",
                "corner 1 1 -> 655360000", "corner 1 0 -> 0", "corner 1 3 -> index");
    }
}
