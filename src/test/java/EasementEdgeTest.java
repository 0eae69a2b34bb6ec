/** The boundaries that the document names for EASEMENTS: each method is one of its sentences. */
final class EasementEdgeTest {
    /** Lot 2 to the right of x = 5, lot 3 to the left, from day 10 on. */
    private static final String[] HALVES = {"square 10 -> true", "cut 1 10 5 0 5 10 -> 2"};
    /** Easement 1 burdens lot 2 from day 12 on. */
    private static final String[] EASED = Script.join(HALVES, "ease 2 3 12 -> 1");

    public static void main(String[] args) {
        numbersFrom1On();
        theyAreTheSame();
        standsFromItsGrantOn();
        standsUpToItsRelease();
        burdensTheLotOverWhichItWasGranted();
        burdensLotsThatTookItOver();
        doesNotBurdenLotsThatBeganWithoutIt();
        takenOverAgainAndAgain();
        burdensByNumber();
        burdensOfALotNotInBeing();
        releaseHasNoReasonOfItsOwn();
        releasedOnce();
        recordedLater();
        Check.end();
    }

    private static void numbersFrom1On() {
        String[] wrong = {"-2147483648", "-1", "0", "1", "2147483647"};
        for (String easement : wrong) {
            Script.unchanged("none yet", HALVES, "release " + easement + " 10 -> index");
        }
        Script.run("the first and the second", Script.join(EASED, "release 0 12 -> index", "release 2 12 -> index",
                "ease 3 2 12 -> 2", "release 2 12 -> 4", "release 3 12 -> index", "release 1 12 -> 5", "many 2 -> 2",
                "ease 3 2 12 -> 3", "many 2 -> 3"));
        Script.run("refused ones have no number", Script.join(EASED, "ease 2 2 12 -> -3", "ease 2 3 11 -> -2",
                "ease 1 3 12 -> -1", "many 2 -> 1", "ease 2 3 12 -> 2"));
    }

    private static void theyAreTheSame() {
        Script.unchanged("the same lot", EASED, "ease 2 2 12 -> -3", "ease 3 3 12 -> -3");
        Script.unchanged("the district alone", new String[] {"square 10 -> true"}, "ease 1 1 0 -> -3");
        Script.run("two lots that are no neighbours", Script.join(HALVES, "cut 2 10 7 0 7 10 -> 4", "ease 4 3 10 -> 1",
                "near 4 10 9 -> 5 0"));
    }

    private static void standsFromItsGrantOn() {
        Script.run("day and entry", Script.join(EASED, "burdens 2 11 2 -> 0", "burdens 2 12 1 -> 0",
                "burdens 2 12 2 -> 1 0", "burdens 2 30000 2147483647 -> 1 0", "burdens 2 30000 1 -> 0"));
        Script.run("on the day the lot began", Script.join(HALVES, "ease 2 3 10 -> 1", "burdens 2 10 1 -> 0",
                "burdens 2 10 2 -> 1 0", "burdens 2 9 2 -> -1"));
    }

    private static void standsUpToItsRelease() {
        Script.run("day and entry", Script.join(EASED, "release 1 15 -> 3", "burdens 2 14 3 -> 1 0",
                "burdens 2 15 3 -> 0", "burdens 2 15 2 -> 1 0", "burdens 2 30000 3 -> 0", "burdens 2 30000 2 -> 1 0",
                "burdens 2 11 3 -> 0"));
        Script.run("on the day of its grant", Script.join(EASED, "release 1 12 -> 3", "burdens 2 12 2 -> 1 0",
                "burdens 2 12 3 -> 0", "burdens 2 11 3 -> 0"));
        Script.run("on the last day", Script.join(EASED, "release 1 30000 -> 3", "burdens 2 29999 3 -> 1 0",
                "burdens 2 30000 3 -> 0"));
    }

    private static void burdensTheLotOverWhichItWasGranted() {
        Script.run("not the one for which it is", Script.join(EASED, "burdens 3 12 2 -> 0", "burdens 2 12 2 -> 1 0"));
        Script.run("the other way round", Script.join(HALVES, "ease 3 2 12 -> 1", "burdens 3 12 2 -> 1 0",
                "burdens 2 12 2 -> 0"));
        Script.run("the one for which it is goes on without it", Script.join(EASED, "cut 3 12 0 5 5 5 -> 4",
                "burdens 4 12 9 -> 0", "burdens 5 12 9 -> 0", "burdens 2 12 9 -> 1 0", "release 1 12 -> 4"));
    }

    private static void burdensLotsThatTookItOver() {
        String[] taken = Script.join(EASED, "cut 2 20 5 5 10 5 -> 4");
        Script.run("both halves", Script.join(taken, "burdens 4 20 3 -> 1 0", "burdens 5 20 3 -> 1 0",
                "burdens 4 19 3 -> -1", "burdens 2 19 3 -> 1 0", "burdens 2 20 3 -> -1", "burdens 2 20 2 -> 1 0"));
        Script.run("while it stands", Script.join(taken, "release 1 25 -> 4", "burdens 4 24 4 -> 1 0",
                "burdens 4 25 4 -> 0", "burdens 5 25 4 -> 0", "burdens 5 25 3 -> 1 0", "burdens 2 19 4 -> 1 0"));
        Script.run("a merged lot", Script.join(EASED, "merge 3 2 20 -> 4", "burdens 4 20 3 -> 1 0",
                "burdens 4 19 3 -> -1", "release 1 20 -> 4", "burdens 4 20 4 -> 0", "burdens 4 20 3 -> 1 0"));
    }

    private static void doesNotBurdenLotsThatBeganWithoutIt() {
        Script.run("released before", Script.join(EASED, "release 1 15 -> 3", "cut 2 15 5 5 10 5 -> 4",
                "burdens 4 15 9 -> 0", "burdens 5 30000 9 -> 0"));
        Script.run("granted over one half afterwards", Script.join(HALVES, "cut 2 20 5 5 10 5 -> 4", "ease 4 5 20 -> 1",
                "burdens 4 20 9 -> 1 0", "burdens 5 20 9 -> 0"));
        Script.run("the other lots", Script.join(EASED, "cut 3 20 0 5 5 5 -> 4", "merge 4 5 20 -> 6",
                "burdens 6 20 9 -> 0", "burdens 2 20 9 -> 1 0"));
    }

    private static void takenOverAgainAndAgain() {
        Script.run("by children's children", Script.join(EASED, "cut 2 20 5 5 10 5 -> 4", "cut 4 20 7 0 7 5 -> 6",
                "merge 7 3 21 -> 8", "cut 8 22 2 0 2 10 -> 9", "burdens 6 22 9 -> 1 0", "burdens 9 22 9 -> 1 0",
                "burdens 10 22 9 -> 1 0", "burdens 5 22 9 -> 1 0", "release 1 21 -> -2", "release 1 22 -> 7",
                "burdens 9 22 9 -> 0", "burdens 6 22 9 -> 0", "burdens 6 21 9 -> 1 0", "transfer 6 0 1 1 1 21 -> -2",
                "transfer 5 0 1 1 1 21 -> -2"));
    }

    private static void burdensByNumber() {
        String[] three = Script.join(EASED, "ease 3 2 12 -> 2", "ease 2 3 12 -> 3", "ease 2 3 14 -> 4");
        Script.run("the i-th", Script.join(three, "burden 2 0 14 9 -> 1", "burden 2 1 14 9 -> 3",
                "burden 2 2 14 9 -> 4", "burden 2 3 14 9 -> 0", "burden 2 2147483647 14 9 -> 0",
                "burden 2 2 13 9 -> 0", "burden 3 0 14 9 -> 2", "burden 3 1 14 9 -> 0"));
        Script.run("without a released one", Script.join(three, "release 1 14 -> 6", "burden 2 0 14 9 -> 3",
                "burden 2 1 14 9 -> 4", "burden 2 2 14 9 -> 0", "burden 2 0 13 9 -> 1"));
        Script.run("i is negative", Script.join(three, "burden 2 -1 14 9 -> argument",
                "burden 2 -2147483648 14 9 -> argument", "burden 1 -1 14 9 -> argument"));
    }

    private static void burdensOfALotNotInBeing() {
        Script.run("before and after", Script.join(EASED, "burden 1 0 10 9 -> -1", "burden 1 0 9 9 -> 0",
                "burden 1 5 10 9 -> -1", "burden 2 0 9 9 -> -1", "burden 2 7 9 9 -> -1", "burden 2 0 10 9 -> 0",
                "burden 2 0 12 0 -> -1"));
    }

    private static void releaseHasNoReasonOfItsOwn() {
        Script.run("of an easement for a lot that ended", Script.join(EASED, "cut 3 12 0 5 5 5 -> 4",
                "release 1 12 -> 4"));
        Script.run("of one that a merge made pointless", Script.join(EASED, "merge 2 3 12 -> 4",
                "burdens 4 12 9 -> 1 0", "release 1 12 -> 4", "burdens 4 12 9 -> 0"));
    }

    private static void releasedOnce() {
        Script.run("twice", Script.join(EASED, "release 1 20 -> 3", "release 1 20 -> -1", "release 1 30000 -> -1",
                "release 1 19 -> -2", "release 1 11 -> -1", "many 1 -> 3", "many 2 -> 1"));
    }

    private static void recordedLater() {
        // easement 1 of day 30 over lot 2; easement 2 of day 20 over lot 5, recorded behind it
        Script.run("the later day first", Script.join(HALVES, "cut 3 10 0 5 5 5 -> 4", "cut 2 10 5 5 10 5 -> 6",
                "ease 6 7 30 -> 1", "ease 5 4 20 -> 2", "burdens 6 29 9 -> 0", "burdens 6 30 9 -> 1 0",
                "burdens 5 20 9 -> 2 0", "burdens 5 20 4 -> 0", "burdens 5 30000 4 -> 0", "ease 5 7 29 -> -2",
                "ease 5 7 30 -> 3", "burdens 5 29 9 -> 2 0", "burdens 5 30 9 -> 2 3 0"));
    }
}
