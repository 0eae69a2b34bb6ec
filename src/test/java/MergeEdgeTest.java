/**
 * The boundaries that the document names for MERGE: each method is one part of its sentences, with
 * two lots that are refused and two beside them that are not.
 */
final class MergeEdgeTest {
    /** Lot 2 is the rectangle 4,3 12,9, lot 3 the C round it. */
    private static final String[] C = {"square 12 -> true", "cut 1 0 12 3 4 3 4 9 12 9 -> 2",
        "ring 2 -> 4,3 12,3 12,9 4,9", "ring 3 -> 0,0 12,0 12,3 4,3 4,9 12,9 12,12 0,12"};

    /** Lots 4 (below) and 5 (above) at the right, 6 (below) and 7 (above) at the left. */
    private static final String[] QUARTERS = {"square 10 -> true", "cut 1 0 5 0 5 10 -> 2", "cut 2 0 5 5 10 5 -> 4",
        "cut 3 0 0 5 5 5 -> 6", "ring 4 -> 5,0 10,0 10,5 5,5", "ring 5 -> 5,5 10,5 10,10 5,10",
        "ring 6 -> 0,0 5,0 5,5 0,5", "ring 7 -> 0,5 5,5 5,10 0,10"};

    public static void main(String[] args) {
        theSameLot();
        nothingInCommon();
        aCornerInCommon();
        aCornerOnASideInCommon();
        aLineOfLength1();
        aLineAndAPoint();
        twoLines();
        aLineWithBends();
        partsOfSides();
        sharesPersonByPerson();
        sharesAsOfItsDay();
        itEndsBothAndBeginsOne();
        theRingOfBoth();
        theBurdensOfEither();
        Check.end();
    }

    /** Both ways round; the new lot's ring is due, or that nothing changes. */
    private static void merge(String[] lines, int a, int b, int lot, String ring) {
        String[] ways = {"merge " + a + " " + b + " 0 -> ", "merge " + b + " " + a + " 0 -> "};
        for (String way : ways) {
            if (lot < 0) {
                Script.unchanged(way, lines, way + lot);
            } else {
                Script.run(way, Script.join(lines, way + lot, "ring " + lot + " -> " + ring,
                        "area2 " + a + " 0 99 -> -1", "area2 " + b + " 0 99 -> -1"));
            }
        }
    }

    private static void theSameLot() {
        merge(QUARTERS, 4, 4, -3, "");
        merge(QUARTERS, 7, 7, -3, "");
        merge(new String[] {"square 10 -> true"}, 1, 1, -3, "");
    }

    private static void nothingInCommon() {
        String[] strips = {"square 12 -> true", "cut 1 0 8 0 8 12 -> 2", "cut 3 0 7 0 7 12 -> 4"};
        merge(strips, 2, 5, -3, "");
        merge(strips, 2, 4, 6, "7,0 12,0 12,12 7,12");
        merge(strips, 4, 5, 6, "0,0 8,0 8,12 0,12");
    }

    private static void aCornerInCommon() {
        merge(QUARTERS, 4, 7, -3, "");
        merge(QUARTERS, 5, 6, -3, "");
        merge(QUARTERS, 4, 6, 8, "0,0 10,0 10,5 0,5");
        merge(QUARTERS, 5, 7, 8, "0,5 10,5 10,10 0,10");
        merge(QUARTERS, 4, 5, 8, "5,0 10,0 10,10 5,10");
        merge(QUARTERS, 6, 7, 8, "0,0 5,0 5,10 0,10");
    }

    private static void aCornerOnASideInCommon() {
        // lot 7 is a triangle whose tip 8,3 lies on a side of the C
        String[] tip = Script.join(C, "cut 2 0 8 3 12 8 -> 4", "cut 4 0 8 3 12 4 -> 6", "ring 7 -> 8,3 12,4 12,8");
        merge(tip, 7, 3, -3, "");
        merge(tip, 6, 3, 8, "0,0 12,0 12,4 8,3 4,3 4,9 12,9 12,12 0,12");
    }

    private static void aLineOfLength1() {
        String[] foot = Script.join(C, "cut 2 0 8 3 12 8 -> 4", "cut 4 0 9 3 12 4 -> 6", "ring 7 -> 8,3 9,3 12,4 12,8");
        merge(foot, 7, 3, 8, "0,0 12,0 12,3 9,3 12,4 12,8 8,3 4,3 4,9 12,9 12,12 0,12");
        String[] step = {"square 10 -> true", "cut 1 0 5 0 5 10 -> 2", "cut 2 0 5 5 10 5 -> 4", "cut 3 0 0 6 5 6 -> 6"};
        merge(step, 4, 7, -3, "");
        merge(step, 5, 6, 8, "0,0 5,0 5,5 10,5 10,10 5,10 5,6 0,6");
    }

    private static void aLineAndAPoint() {
        // a triangle with its base on the one arm of the C, and its tip on the other one, or below it
        String[] touching = Script.join(C, "cut 2 0 10 3 8 9 -> 4", "cut 5 0 6 3 8 9 -> 6", "ring 6 -> 6,3 10,3 8,9");
        merge(touching, 6, 3, -3, "");
        String[] apart = Script.join(C, "cut 2 0 6 3 8 8 10 3 -> 4", "ring 4 -> 6,3 10,3 8,8");
        merge(apart, 4, 3, 6, "0,0 12,0 12,3 10,3 8,8 6,3 4,3 4,9 12,9 12,12 0,12");
        // the tip on a corner of the C
        String[] corner = Script.join(C, "cut 2 0 10 3 4 9 -> 4", "cut 5 0 6 3 4 9 -> 6", "ring 6 -> 4,9 6,3 10,3");
        merge(corner, 6, 3, -3, "");
    }

    private static void twoLines() {
        String[] crossed = Script.join(C, "cut 2 0 8 3 8 9 -> 4");
        merge(crossed, 4, 3, -3, "");
        merge(crossed, 5, 3, 6, "0,0 12,0 12,3 8,3 8,9 12,9 12,12 0,12");
        // lines that a third lot parts from one another, on one side of it
        String[] comb = {"square 12 -> true", "cut 1 0 0 6 12 6 -> 2", "cut 3 0 4 6 4 8 8 8 8 6 -> 4",
            "ring 4 -> 4,6 8,6 8,8 4,8"};
        merge(comb, 2, 5, -3, "");
        merge(comb, 2, 4, 6, "0,0 12,0 12,6 8,6 8,8 4,8 4,6 0,6");
        merge(comb, 4, 5, 6, "0,6 12,6 12,12 0,12");
    }

    private static void aLineWithBends() {
        merge(C, 2, 3, 4, "0,0 12,0 12,12 0,12");
        String[] saw = {"square 12 -> true", "cut 1 0 6 0 8 3 4 6 8 9 6 12 -> 2"};
        merge(saw, 2, 3, 4, "0,0 12,0 12,12 0,12");
    }

    private static void partsOfSides() {
        // the middle of one side, one end of it, and more than the whole of it
        String[] strips = {"square 12 -> true", "cut 1 0 6 0 6 12 -> 2", "cut 2 0 6 8 12 8 -> 4",
            "cut 4 0 6 4 12 4 -> 6"};
        merge(strips, 3, 7, 8, "0,0 6,0 6,4 12,4 12,8 6,8 6,12 0,12");
        merge(strips, 3, 6, 8, "0,0 12,0 12,4 6,4 6,12 0,12");
        merge(strips, 3, 5, 8, "0,0 6,0 6,8 12,8 12,12 0,12");
        String[] both = Script.join(strips, "cut 3 0 0 6 6 6 -> 8");
        merge(both, 8, 7, 10, "0,0 6,0 6,4 12,4 12,8 6,8 6,6 0,6");
        merge(both, 9, 7, 10, "0,6 6,6 6,4 12,4 12,8 6,8 6,12 0,12");
        merge(both, 8, 6, 10, "0,0 12,0 12,4 6,4 6,6 0,6");
    }

    private static void sharesPersonByPerson() {
        String[] persons = {"1", "50", "99"};
        for (String person : persons) {
            String[] differ = Script.join(QUARTERS, "transfer 4 0 " + person + " 1 5040 0 -> 4");
            merge(differ, 4, 6, -3, "");
            merge(differ, 5, 7, 8, "0,5 10,5 10,10 0,10");
            merge(Script.join(differ, "transfer 6 0 " + person + " 1 5040 0 -> 5"), 4, 6, 8, "0,0 10,0 10,5 0,5");
            merge(Script.join(differ, "transfer 6 0 " + person + " 1 2520 0 -> 5"), 4, 6, -3, "");
            merge(Script.join(differ, "transfer 6 0 2 1 5040 0 -> 5"), 4, 6, -3, "");
            merge(Script.join(differ, "transfer 4 " + person + " 0 1 5040 0 -> 5"), 4, 6, 8, "0,0 10,0 10,5 0,5");
        }
        // person 0 has nothing of either, and two others have it the other way round
        merge(Script.join(QUARTERS, "transfer 4 0 98 1 1 0 -> 4", "transfer 6 0 99 1 1 0 -> 5"), 4, 6, -3, "");
        Script.run("the shares of both", Script.join(QUARTERS, "transfer 4 0 99 1 3 0 -> 4",
                "transfer 6 0 98 1 3 0 -> 5", "transfer 6 98 99 1 3 0 -> 6", "merge 4 6 0 -> 8",
                "share 8 99 0 7 -> 1680", "share 8 98 0 7 -> 0", "share 8 0 0 7 -> 3360", "share 4 99 0 6 -> 1680"));
    }

    private static void sharesAsOfItsDay() {
        Script.run("equal from day 9 on", Script.join(QUARTERS, "transfer 4 0 1 1 2 5 -> 4", "merge 4 6 4 -> -2",
                "merge 4 6 5 -> -3", "merge 4 6 8 -> -3", "transfer 6 0 1 1 2 9 -> 5", "merge 4 6 8 -> -2",
                "merge 4 6 9 -> 8", "share 8 1 9 6 -> 2520"));
    }

    private static void itEndsBothAndBeginsOne() {
        Script.run("a merge", Script.join(QUARTERS, "merge 6 4 3 -> 8", "many 0 -> 8", "many 1 -> 4",
                "family 8 -> 4 6 0 0", "family 4 -> 2 0 8 0", "family 6 -> 3 0 8 0", "family 5 -> 2 0 0 0",
                "area2 4 2 4 -> 50", "area2 4 3 4 -> -1", "area2 6 3 4 -> -1", "area2 8 2 4 -> -1",
                "area2 8 3 4 -> 100", "area2 8 3 3 -> -1", "near 8 3 4 -> 5 7 0", "merge 8 8 3 -> -3",
                "merge 8 4 3 -> -1"));
    }

    /** Corners at the ends of the line go straight on, or bend, or are the least corner. */
    private static void theRingOfBoth() {
        String[] slanted = {"row 0 0 12 0 12 12 0 12", "open -> true", "cut 1 0 0 0 12 12 -> 2"};
        merge(slanted, 2, 3, 4, "0,0 12,0 12,12 0,12");
        merge(Script.join(slanted, "cut 2 0 6 6 12 0 -> 4"), 4, 3, 6, "0,0 12,0 6,6 12,12 0,12");
        merge(Script.join(slanted, "cut 2 0 6 6 12 0 -> 4"), 5, 3, 6, "0,0 6,6 12,0 12,12 0,12");
        // the least corner of both lots is one end of the line, and goes straight on
        String[] low = {"row 0 0 6 6 12 0 12 12 0 12", "open -> true", "cut 1 0 0 6 6 6 -> 2"};
        merge(low, 2, 3, 4, "0,0 6,6 12,0 12,12 0,12");
        String[] far = {"square 20000 -> true", "cut 1 0 0 0 20000 19999 -> 2", "cut 3 0 0 0 20000 20000 -> 4"};
        merge(far, 2, 4, 6, "0,0 20000,0 20000,20000");
        merge(far, 4, 5, 6, "0,0 20000,19999 20000,20000 0,20000");
        merge(far, 2, 5, -3, "");
    }

    private static void theBurdensOfEither() {
        String[] burdened = Script.join(QUARTERS, "ease 6 4 5 -> 1", "ease 4 6 5 -> 2", "ease 5 7 5 -> 3",
                "ease 6 7 5 -> 4");
        Script.run("of the first and of the second", Script.join(burdened, "merge 4 6 5 -> 8",
                "burdens 8 5 9 -> 1 2 4 0", "burdens 5 5 9 -> 3 0", "burdens 4 5 7 -> 2 0"));
        Script.run("the other way round", Script.join(burdened, "merge 6 4 5 -> 8", "burdens 8 5 9 -> 1 2 4 0"));
        Script.run("of one of them alone", Script.join(burdened, "merge 7 5 5 -> 8", "burdens 8 5 9 -> 3 0"));
        Script.run("of neither", Script.join(QUARTERS, "merge 7 5 5 -> 8", "burdens 8 5 9 -> 0"));
        Script.run("of both, only once", Script.join(burdened, "cut 6 5 0 2 5 2 -> 8", "burdens 8 5 9 -> 1 4 0",
                "burdens 9 5 9 -> 1 4 0", "merge 8 9 5 -> 10", "burdens 10 5 99 -> 1 4 0", "release 1 5 -> 10",
                "burdens 10 5 99 -> 4 0"));
        Script.run("not what was released on the day", Script.join(burdened, "release 1 5 -> 8", "merge 4 6 5 -> 8",
                "burdens 8 5 99 -> 2 4 0", "burdens 8 5 8 -> -1", "burdens 6 5 7 -> 1 4 0"));
    }
}
