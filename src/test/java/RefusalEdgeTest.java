/**
 * Which deed is REFUSED, and by the first of which reasons, at the last day on each side of each
 * boundary; the own reasons of the deeds and the limits have tests of their own.
 */
final class RefusalEdgeTest {
    /** Lot 2 to the right of x = 5, lot 3 to the left, from day 10 on; easement 1 over lot 2 for lot 3. */
    private static final String[] HALVES = {"square 10 -> true", "cut 1 10 5 0 5 10 -> 2", "ease 2 3 10 -> 1"};

    /** As of day 20 lots 3, 4 (below) and 5 (above) are in being; lot 3 has a deed of day 30. */
    private static final String[] THREE = Script.join(HALVES, "cut 2 20 5 5 10 5 -> 4", "transfer 3 0 1 1 2 30 -> 4");

    public static void main(String[] args) {
        notInBeingOnTheDayBeforeItBegan();
        notInBeingOnTheDayItEnded();
        theEasementDoesNotStand();
        lateOnTheDayBefore();
        aSplitAndAMergeNameWhatTheyEnd();
        anEasementsGrantNamesBothLots();
        aReleaseNamesAllLotsBurdened();
        lateOnlyByAcceptedDeeds();
        lateOnlyByLotsThatItNames();
        notInBeingComesBeforeLate();
        notInBeingComesBeforeItsOwnReason();
        lateComesBeforeItsOwnReason();
        nothingChanges();
        Check.end();
    }

    private static void after(String name, String[] lines, String... more) {
        for (String line : more) {
            Script.run(name, Script.join(lines, line));
        }
    }

    private static void notInBeingOnTheDayBeforeItBegan() {
        after("on the day before", HALVES, "cut 2 9 7 0 7 10 -> -1", "merge 2 3 9 -> -1", "transfer 2 0 1 1 2 9 -> -1",
                "ease 2 3 9 -> -1", "transfer 3 0 1 1 2 0 -> -1", "transfer 2 0 1 1 2 0 -> -1");
        after("on the day", HALVES, "cut 2 10 7 0 7 10 -> 4", "merge 2 3 10 -> 4", "transfer 2 0 1 1 2 10 -> 3",
                "ease 2 3 10 -> 2", "transfer 3 0 1 1 2 10 -> 3", "transfer 2 0 1 1 2 30000 -> 3");
        // only one of two lots is not in being
        after("one of two", THREE, "merge 3 4 19 -> -1", "merge 4 3 19 -> -1", "ease 3 4 19 -> -1",
                "ease 4 3 19 -> -1");
        after("both in being", THREE, "merge 4 5 20 -> 6", "merge 5 4 20 -> 6", "ease 5 4 20 -> 2", "ease 4 5 20 -> 2");
        after("one that began, one that ended", THREE, "merge 2 4 19 -> -1", "merge 2 4 20 -> -1", "merge 4 2 20 -> -1",
                "ease 2 5 20 -> -1", "ease 5 2 20 -> -1");
    }

    private static void notInBeingOnTheDayItEnded() {
        after("on the day it ended", HALVES, "cut 1 10 7 0 7 10 -> -1", "merge 1 2 10 -> -1", "merge 2 1 10 -> -1",
                "transfer 1 0 1 1 2 10 -> -1", "ease 1 2 10 -> -1", "ease 3 1 10 -> -1");
        after("on a later day", HALVES, "cut 1 30000 7 0 7 10 -> -1", "transfer 1 0 1 1 2 11 -> -1");
        // on the day before it is in being, but then the deed that ended it is later
        after("on the day before", HALVES, "cut 1 9 7 0 7 10 -> -2", "merge 1 1 9 -> -2", "transfer 1 0 1 1 2 9 -> -2",
                "ease 1 1 9 -> -2");
        Script.run("on the day it ended, before that is recorded", "square 10", "transfer 1 0 1 1 2 10 -> 1",
                "cut 1 10 5 0 5 10 -> 2", "transfer 1 0 1 1 2 10 -> -1");
    }

    private static void theEasementDoesNotStand() {
        Script.run("before its grant", Script.join(HALVES, "ease 3 2 12 -> 2", "release 2 11 -> -1",
                "release 2 12 -> 4"));
        Script.run("from its release on", Script.join(HALVES, "release 1 15 -> 3", "release 1 15 -> -1",
                "release 1 16 -> -1", "release 1 30000 -> -1", "release 1 14 -> -2", "release 1 10 -> -2",
                "release 1 9 -> -1"));
        Script.run("released on the day of its grant", Script.join(HALVES, "release 1 10 -> 3", "release 1 10 -> -1",
                "release 1 9 -> -1", "burdens 2 10 2 -> 1 0", "burdens 2 10 3 -> 0"));
    }

    private static void lateOnTheDayBefore() {
        String[] deeds = {"cut 2 DAY 7 0 7 10 -> 4", "merge 2 3 DAY -> 4", "merge 3 2 DAY -> 4",
            "transfer 2 0 1 1 2 DAY -> 5", "ease 2 3 DAY -> 2", "ease 3 2 DAY -> 2", "release 1 DAY -> 5"};
        String[] later = Script.join(HALVES, "transfer 2 0 1 1 2 20 -> 3", "transfer 2 1 0 1 2 20 -> 4");
        for (String deed : deeds) {
            String call = deed.substring(0, deed.indexOf("->"));
            Script.run("on the day before", Script.join(later, call.replace("DAY", "19") + "-> -2"));
            Script.run("long before", Script.join(later, call.replace("DAY", "10") + "-> -2"));
            Script.run("on the day", Script.join(later, deed.replace("DAY", "20")));
            Script.run("on the day after", Script.join(later, deed.replace("DAY", "21")));
        }
    }

    private static void aSplitAndAMergeNameWhatTheyEnd() {
        Script.run("a split", Script.join(HALVES, "cut 2 20 5 5 10 5 -> 4", "transfer 2 0 1 1 2 19 -> -2",
                "transfer 2 0 1 1 2 20 -> -1", "transfer 4 0 1 1 2 20 -> 4", "transfer 5 0 1 1 2 20 -> 5",
                "transfer 3 0 1 1 2 19 -> 6"));
        Script.run("a merge", Script.join(HALVES, "merge 2 3 20 -> 4", "transfer 2 0 1 1 2 19 -> -2",
                "transfer 3 0 1 1 2 19 -> -2", "transfer 2 0 1 1 2 20 -> -1", "transfer 3 0 1 1 2 20 -> -1",
                "transfer 4 0 1 1 2 20 -> 4"));
    }

    private static void anEasementsGrantNamesBothLots() {
        String[] later = Script.join(HALVES, "cut 3 10 0 5 5 5 -> 4", "ease 2 4 20 -> 2");
        Script.run("the lot that is burdened", Script.join(later, "transfer 2 0 1 1 2 19 -> -2",
                "transfer 2 0 1 1 2 20 -> 5"));
        Script.run("the one for which it is", Script.join(later, "transfer 4 0 1 1 2 19 -> -2",
                "transfer 4 0 1 1 2 20 -> 5"));
        Script.run("no other one", Script.join(later, "transfer 5 0 1 1 2 19 -> 5", "transfer 5 0 1 1 2 10 -> -2"));
        Script.run("a grant that is late by one lot", Script.join(later, "ease 2 5 19 -> -2", "ease 5 2 19 -> -2",
                "ease 4 5 19 -> -2", "ease 5 4 19 -> -2", "ease 5 4 20 -> 3"));
    }

    private static void aReleaseNamesAllLotsBurdened() {
        Script.run("not the one for which it is", Script.join(HALVES, "release 1 20 -> 3",
                "transfer 2 0 1 1 2 19 -> -2", "transfer 3 0 1 1 2 19 -> 4", "transfer 2 0 1 1 2 20 -> 5"));
        // easement 1 burdens lots 4 and 5, which took it over on day 15
        String[] taken = Script.join(HALVES, "cut 2 15 5 5 10 5 -> 4");
        Script.run("lots that took it over", Script.join(taken, "release 1 20 -> 4", "transfer 4 0 1 1 2 19 -> -2",
                "transfer 5 0 1 1 2 19 -> -2", "transfer 3 0 1 1 2 19 -> 5", "transfer 4 0 1 1 2 20 -> 6",
                "transfer 5 0 1 1 2 20 -> 7"));
        Script.run("late by the first of them", Script.join(taken, "transfer 4 0 1 1 2 18 -> 4", "release 1 17 -> -2",
                "release 1 18 -> 5"));
        Script.run("late by the last of them", Script.join(taken, "transfer 5 0 1 1 2 18 -> 4", "release 1 17 -> -2",
                "release 1 18 -> 5"));
        Script.run("late by the split", Script.join(taken, "release 1 14 -> -2", "release 1 15 -> 4"));
        Script.run("not late by a lot that it does not burden", Script.join(taken, "transfer 3 0 1 1 2 18 -> 4",
                "release 1 17 -> 5"));
        Script.run("a lot that did not take it over", Script.join(HALVES, "release 1 15 -> 3",
                "cut 2 15 5 5 10 5 -> 4", "transfer 4 0 1 1 2 15 -> 5", "release 1 20 -> -1"));
    }

    private static void lateOnlyByAcceptedDeeds() {
        Script.run("a refused deed", Script.join(HALVES, "transfer 2 0 0 1 2 20 -> -3", "merge 2 2 20 -> -3",
                "transfer 2 0 1 1 2 19 -> 3"));
        Script.run("a deed that throws", Script.join(HALVES, "transfer 2 0 1 1 5041 20 -> argument",
                "transfer 2 0 1 1 2 10 -> 3"));
        Script.run("a deed that a crash lost", Script.join(HALVES, "sync -> 12", "transfer 2 0 1 1 2 20 -> 3",
                "transfer 2 0 1 1 2 19 -> -2", "crash 5 -> 17", "mount -> 2", "transfer 2 0 1 1 2 19 -> 3",
                "transfer 2 0 1 1 2 18 -> -2"));
        Script.run("a deed that a mount brought back", Script.join(HALVES, "transfer 2 0 1 1 2 20 -> 3",
                "crash 18 -> 18", "mount -> 3", "transfer 2 0 1 1 2 19 -> -2", "transfer 2 0 1 1 2 20 -> 4"));
    }

    private static void lateOnlyByLotsThatItNames() {
        Script.run("the neighbour has later deeds", Script.join(HALVES, "transfer 3 0 1 1 2 30000 -> 3",
                "transfer 2 0 1 1 2 10 -> 4", "cut 2 10 7 0 7 10 -> 4", "merge 4 5 10 -> 6", "release 1 10 -> 7",
                "ease 6 3 10 -> -2", "merge 6 3 29999 -> -2", "ease 6 3 30000 -> 2", "merge 6 3 30000 -> 7"));
    }

    private static void notInBeingComesBeforeLate() {
        // on day 19 lot 4 has not begun, and lot 3 has a later deed
        after("the one not in being, the other late", THREE, "merge 4 3 19 -> -1", "merge 3 4 19 -> -1",
                "ease 4 3 19 -> -1", "ease 3 4 19 -> -1");
        after("both in being, one late", THREE, "merge 4 3 29 -> -2", "merge 3 4 29 -> -2", "ease 4 3 29 -> -2",
                "ease 3 4 29 -> -2");
        after("neither", THREE, "ease 4 3 30 -> 2", "ease 3 4 30 -> 2", "merge 4 3 30 -> -3");
        // released on day 40, when it burdened lots 4 and 5
        Script.run("a release", Script.join(THREE, "release 1 40 -> 5", "release 1 39 -> -2", "release 1 40 -> -1",
                "release 1 9 -> -1"));
    }

    private static void notInBeingComesBeforeItsOwnReason() {
        after("not in being", HALVES, "split 1 10 -> -1", "cut 1 10 5 0 5 0 -> -1", "merge 1 1 10 -> -1",
                "transfer 1 0 0 1 11 10 -> -1", "ease 1 1 10 -> -1", "merge 2 2 9 -> -1", "ease 2 2 9 -> -1",
                "split 2 9 -> -1");
        after("in being", HALVES, "split 2 10 -> -3", "cut 2 10 5 0 5 0 -> -3", "merge 2 2 10 -> -3",
                "transfer 2 0 0 1 1 10 -> -3", "transfer 2 0 1 1 11 10 -> -3", "transfer 2 1 0 1 1 10 -> -3",
                "ease 2 2 10 -> -3", "ease 3 3 10 -> -3");
    }

    private static void lateComesBeforeItsOwnReason() {
        after("late", THREE, "split 3 29 -> -2", "merge 3 3 29 -> -2", "transfer 3 0 0 1 2 29 -> -2",
                "transfer 3 0 1 1 11 29 -> -2", "transfer 3 2 1 1 1 29 -> -2", "ease 3 3 29 -> -2");
        after("not late", THREE, "split 3 30 -> -3", "merge 3 3 30 -> -3", "transfer 3 0 0 1 2 30 -> -3",
                "transfer 3 0 1 1 11 30 -> -3", "transfer 3 2 1 1 1 30 -> -3", "ease 3 3 30 -> -3");
    }

    private static void nothingChanges() {
        Script.unchanged("refused deeds", THREE, "cut 2 20 7 0 7 10 -> -1", "merge 2 3 20 -> -1",
                "transfer 2 0 1 1 1 20 -> -1", "ease 2 3 30 -> -1", "release 1 9 -> -1", "cut 3 29 2 0 2 10 -> -2",
                "merge 3 4 29 -> -2", "transfer 3 0 1 1 1 29 -> -2", "ease 4 3 29 -> -2", "release 1 19 -> -2",
                "cut 4 20 5 5 10 5 -> -3", "merge 4 4 20 -> -3", "merge 3 4 30 -> -3", "transfer 3 0 1 2 1 30 -> -3",
                "ease 4 4 20 -> -3");
    }
}
