/**
 * The boundaries that the document names for lots, deeds, entries and days, and for what is in
 * force and in being at the very day and at the very entry: each method is one of its sentences.
 */
final class DayEdgeTest {
    private static final String[] WRONG_DAYS = {"-2147483648", "-1", "30001", "32768", "2147483647"};
    private static final String[] DAYS = {"0", "1", "29999", "30000"};

    /** Lot 2 to the right of x = 5, lot 3 to the left, from day 10 and entry 2 on. */
    private static final String[] HALVES = {"square 10 -> true", "transfer 1 0 1 1 2 10 -> 1",
        "cut 1 10 5 0 5 10 -> 2"};

    public static void main(String[] args) {
        lotsHaveNumbersFrom1On();
        lot1IsTheDistrict();
        acceptedDeedsHaveTheEntries1And2AndSoOn();
        daysOfDeeds();
        daysOfQuestions();
        entriesOfQuestions();
        inForceIfDayAndEntryAreNotAbove();
        inBeingIfBegunAndNotEnded();
        inBeingOnOneDayBetweenTwoEntries();
        mergedLotsInBeing();
        deedsRecordedLater();
        deedsOfOneDayByEntry();
        sharesCountAllDeedsInForce();
        Check.end();
    }

    private static void lotsHaveNumbersFrom1On() {
        String[] wrong = {"-2147483648", "-1", "0", "4", "65536", "2147483647"};
        for (String lot : wrong) {
            Script.run("no such lot", Script.join(HALVES, "cut " + lot + " 10 0 0 10 10 -> index",
                    "merge " + lot + " 2 10 -> index", "merge 2 " + lot + " 10 -> index",
                    "transfer " + lot + " 0 1 1 1 10 -> index", "ease " + lot + " 2 10 -> index",
                    "ease 2 " + lot + " 10 -> index", "area2 " + lot + " 10 2 -> index",
                    "share " + lot + " 0 10 2 -> index", "next " + lot + " 0 10 2 -> index",
                    "burden " + lot + " 0 10 2 -> index", "parent " + lot + " 0 -> index",
                    "child " + lot + " 0 -> index", "corners " + lot + " -> index",
                    "corner " + lot + " 0 -> index"));
        }
        Script.run("the last number", Script.join(HALVES, "area2 3 10 2 -> 100", "corners 3 -> 4", "parent 3 0 -> 1",
                "child 3 1 -> 0", "next 3 0 10 2 -> 2", "share 3 1 10 2 -> 2520", "burden 3 0 10 2 -> 0",
                "corner 3 0 -> 0"));
        Script.run("lot 2 is there from the first split on", "square 10", "area2 2 0 0 -> index",
                "cut 1 0 5 0 5 9 -> -3", "area2 2 0 0 -> index", "cut 1 0 5 0 5 10 -> 2", "area2 2 0 0 -> -1",
                "area2 3 0 1 -> 100", "area2 4 0 1 -> index", "merge 2 3 0 -> 4", "area2 4 0 2 -> 200",
                "area2 5 0 2 -> index");
    }

    private static void lot1IsTheDistrict() {
        Script.run("before any deed", "square 10", "area2 1 0 0 -> 200", "area2 1 30000 2147483647 -> 200",
                "lotAt 5 5 0 0 -> 1", "share 1 0 0 0 -> 5040", "family 1 -> 0 0 0 0");
        Script.run("as of entry 0 it always is", Script.join(HALVES, "area2 1 30000 0 -> 200", "area2 1 0 0 -> 200",
                "lotAt 9 9 30000 0 -> 1", "share 1 0 30000 0 -> 5040"));
    }

    private static void acceptedDeedsHaveTheEntries1And2AndSoOn() {
        Script.run("refused and wrong deeds have no entry", "square 10", "transfer 1 0 1 1 2 5 -> 1",
                "transfer 1 0 1 1 11 5 -> -3", "transfer 1 0 1 1 1 4 -> -2", "transfer 2 0 1 1 1 5 -> index",
                "transfer 1 0 1 1 4 5 -> 2", "cut 1 5 5 5 5 10 -> -3", "cut 1 5 5 0 5 10 -> 2", "many 1 -> 3",
                "transfer 1 0 1 1 4 5 -> -1", "transfer 2 0 1 1 4 5 -> 4", "transfer 3 0 1 1 4 5 -> 5",
                "ease 2 3 5 -> 1", "release 1 5 -> 7", "merge 2 3 5 -> 4", "transfer 4 1 0 1 4 5 -> 9", "many 1 -> 9");
    }

    private static void daysOfDeeds() {
        for (String day : WRONG_DAYS) {
            Script.run("no day", Script.join(HALVES, "ease 2 3 10 -> 1", "cut 2 " + day + " 5 0 10 10 -> argument",
                    "merge 2 3 " + day + " -> argument", "transfer 2 0 1 1 2 " + day + " -> argument",
                    "ease 2 3 " + day + " -> argument", "release 1 " + day + " -> argument", "many 1 -> 3"));
        }
        for (String day : DAYS) {
            Script.run("a day", "square 10", "cut 1 " + day + " 5 0 5 10 -> 2", "transfer 2 0 1 1 2 " + day + " -> 2",
                    "transfer 3 0 1 1 2 " + day + " -> 3", "ease 2 3 " + day + " -> 1", "release 1 " + day + " -> 5",
                    "merge 2 3 " + day + " -> 4", "area2 4 " + day + " 6 -> 200", "area2 4 30000 6 -> 200",
                    "area2 4 0 6 -> " + (day.equals("0") ? "200" : "-1"));
        }
    }

    private static void daysOfQuestions() {
        for (String day : WRONG_DAYS) {
            Script.run("no day", Script.join(HALVES, "lotAt 5 5 " + day + " 0 -> argument",
                    "area2 1 " + day + " 0 -> argument", "share 1 0 " + day + " 0 -> argument",
                    "next 1 0 " + day + " 0 -> argument", "burden 1 0 " + day + " 0 -> argument"));
        }
        for (String day : DAYS) {
            Script.run("a day", Script.join(HALVES, "lotAt 5 5 " + day + " 0 -> 1", "area2 1 " + day + " 0 -> 200",
                    "share 1 0 " + day + " 0 -> 5040", "next 1 0 " + day + " 0 -> 0", "burden 1 0 " + day + " 0 -> 0"));
        }
    }

    private static void entriesOfQuestions() {
        String[] wrong = {"-1", "-2", "-2147483648"};
        for (String entry : wrong) {
            Script.run("a negative entry", Script.join(HALVES, "lotAt 5 5 9 " + entry + " -> argument",
                    "area2 1 9 " + entry + " -> argument", "share 1 0 9 " + entry + " -> argument",
                    "next 1 0 9 " + entry + " -> argument", "burden 1 0 9 " + entry + " -> argument"));
        }
        String[] early = {"0", "1"};
        for (String entry : early) {
            Script.run("an entry before the split", Script.join(HALVES, "lotAt 5 5 10 " + entry + " -> 1",
                    "area2 1 10 " + entry + " -> 200", "area2 2 10 " + entry + " -> -1",
                    "share 1 1 10 " + entry + " -> " + (entry.equals("0") ? 0 : 2520),
                    "next 1 0 10 " + entry + " -> 0", "burden 3 0 10 " + entry + " -> -1"));
        }
        // above the last entry all is as of the last one
        String[] late = {"2", "3", "600", "601", "2147483647"};
        for (String entry : late) {
            Script.run("an entry from the split on", Script.join(HALVES, "lotAt 4 5 10 " + entry + " -> 3",
                    "area2 1 10 " + entry + " -> -1", "area2 2 10 " + entry + " -> 100",
                    "share 2 1 10 " + entry + " -> 2520", "next 2 0 10 " + entry + " -> 3",
                    "burden 3 0 10 " + entry + " -> 0"));
        }
    }

    private static void inForceIfDayAndEntryAreNotAbove() {
        int[] days = {0, 9, 10, 11, 30000};
        int[] entries = {0, 1, 2, 3};
        for (int day : days) {
            for (int entry : entries) {
                String asOf = " " + day + " " + entry + " -> ";
                boolean moved = day >= 10 && entry >= 1;
                boolean split = day >= 10 && entry >= 2;
                int share = moved ? 2520 : 5040;
                Script.run("in force as of" + asOf, Script.join(HALVES, "lotAt 9 5" + asOf + (split ? 2 : 1),
                        "lotAt 1 5" + asOf + (split ? 3 : 1), "area2 1" + asOf + (split ? -1 : 200),
                        "area2 2" + asOf + (split ? 100 : -1), "area2 3" + asOf + (split ? 100 : -1),
                        "share 1 0" + asOf + (split ? -1 : share), "share 2 0" + asOf + (split ? share : -1),
                        "share 3 1" + asOf + (split ? share : -1), "next 1 0" + asOf + (split ? -1 : 0),
                        "next 2 0" + asOf + (split ? 3 : -1), "burden 1 0" + asOf + (split ? -1 : 0),
                        "burden 3 0" + asOf + (split ? 0 : -1)));
            }
        }
    }

    private static void inBeingIfBegunAndNotEnded() {
        Script.run("begun on day 10, ended on day 20", Script.join(HALVES, "cut 2 20 5 5 10 5 -> 4",
                "area2 2 9 3 -> -1", "area2 2 10 3 -> 100", "area2 2 19 3 -> 100", "area2 2 20 3 -> -1",
                "area2 4 19 3 -> -1", "area2 4 20 3 -> 50", "area2 2 30000 2 -> 100", "area2 2 30000 1 -> -1",
                "area2 4 30000 2 -> -1", "near 3 19 3 -> 2 0", "near 3 20 3 -> 4 5 0", "near 3 20 2 -> 2 0"));
    }

    private static void inBeingOnOneDayBetweenTwoEntries() {
        Script.run("begun and ended on one day", Script.join(HALVES, "cut 2 10 5 5 10 5 -> 4", "area2 2 10 1 -> -1",
                "area2 2 10 2 -> 100", "area2 2 10 3 -> -1", "lotAt 9 9 10 1 -> 1", "lotAt 9 9 10 2 -> 2",
                "lotAt 9 9 10 3 -> 5", "lotAt 9 9 9 3 -> 1"));
    }

    private static void mergedLotsInBeing() {
        Script.run("a merge ends two and begins one", Script.join(HALVES, "merge 3 2 12 -> 4", "area2 2 11 3 -> 100",
                "area2 3 11 3 -> 100", "area2 4 11 3 -> -1", "area2 2 12 3 -> -1", "area2 3 12 3 -> -1",
                "area2 4 12 3 -> 200", "area2 4 30000 2 -> -1", "lotAt 5 5 12 3 -> 4", "lotAt 5 5 11 3 -> 2",
                "family 4 -> 2 3 0 0", "family 2 -> 1 0 4 0", "family 3 -> 1 0 4 0"));
    }

    private static void deedsRecordedLater() {
        Script.run("the later day first", Script.join(HALVES, "cut 2 20 5 5 10 5 -> 4", "cut 3 15 0 5 5 5 -> 6",
                "lotAt 1 1 14 9 -> 3", "lotAt 1 1 15 9 -> 6", "lotAt 1 1 15 3 -> 3", "lotAt 1 1 30000 3 -> 3",
                "lotAt 9 1 15 9 -> 2", "lotAt 9 1 20 9 -> 4", "lotAt 9 1 19 9 -> 2", "near 6 15 4 -> 2 7 0",
                "near 6 19 4 -> 2 7 0", "near 6 20 4 -> 4 7 0", "near 4 20 3 -> 3 5 0", "near 4 20 4 -> 5 6 0"));
    }

    private static void deedsOfOneDayByEntry() {
        Script.run("a lot that came and went twice on a day", "square 10", "cut 1 0 5 0 5 10 -> 2", "merge 2 3 0 -> 4",
                "cut 4 0 0 5 10 5 -> 5", "merge 5 6 0 -> 7", "lotAt 9 9 0 0 -> 1", "lotAt 9 9 0 1 -> 2",
                "lotAt 9 9 0 2 -> 4", "lotAt 9 9 0 3 -> 6", "lotAt 9 9 0 4 -> 7", "lotAt 9 9 0 5 -> 7",
                "lotAt 9 9 30000 3 -> 6");
    }

    private static void sharesCountAllDeedsInForce() {
        Script.run("shares, day by day and entry by entry", "square 10", "transfer 1 0 1 1 2 3 -> 1",
                "transfer 1 1 2 1 4 3 -> 2", "transfer 1 2 0 1 4 7 -> 3", "share 1 1 2 3 -> 0", "share 1 1 3 0 -> 0",
                "share 1 1 3 1 -> 2520", "share 1 1 3 2 -> 1260", "share 1 2 3 1 -> 0", "share 1 2 3 2 -> 1260",
                "share 1 2 6 3 -> 1260", "share 1 2 7 3 -> 0", "share 1 2 7 2 -> 1260", "share 1 0 7 3 -> 3780",
                "share 1 0 6 3 -> 2520");
    }
}
