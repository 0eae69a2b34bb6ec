import java.util.ArrayList;
import java.util.Arrays;
import java.util.List;

/**
 * The boundaries that the document names for the log, what is synced, a CRASH and a MOUNT: each
 * method is one part of its sentences.
 */
final class LogEdgeTest {
    /** One deed of each kind: the records have 7, 5, 5, 6, 6, 5 words. */
    private static final String[] ALL_KINDS = {"square 100 -> true", "cut 1 10 50 0 50 100 -> 2", "ease 3 2 11 -> 1",
        "release 1 12 -> 3", "transfer 2 0 7 1 3 13 -> 4", "transfer 3 0 7 1 3 13 -> 5", "merge 3 2 14 -> 4"};
    private static final int[] ENDS = {0, 7, 12, 17, 23, 29, 34};
    private static final String[] COUNTS = {"1 0 0", "3 1 0", "3 2 1", "3 3 1", "3 4 1", "3 5 1", "4 6 1"};

    public static void main(String[] args) {
        theBodyOfASplit();
        theBodyOfAMergeAsItWasCalled();
        theBodyOfATransfer();
        theBodyOfAnEaseAndARelease();
        theSumModulo2147483648();
        refusedDeedsPutNoRecord();
        wordsOfTheLog();
        whatIsCounted();
        whatIsCountedWhenItIsDown();
        syncedOrNot();
        aCrashKeepsWhatIsSynced();
        aCrashKeepsAsManyAsItSays();
        aCrashOfNothing();
        downThen();
        recordsThatAreWhole();
        tornBehindWhatIsSynced();
        whatIsLeftIsSynced();
        mountWhenItIsNotDown();
        allIsAsItWas();
        numbersAreUsedAgain();
        tornAgainAndAgain();
        mounted40TimesAlready();
        mountsThatThrowAreNotCounted();
        Check.end();
    }

    /** A record's words, worked out from its body. */
    private static String record(long... body) {
        StringBuilder text = new StringBuilder();
        long sum = 0;
        for (int i = 0; i < body.length; i++) {
            text.append(body[i]).append(' ');
            sum += body[i] * (i + 1);
        }
        return text.append(body.length - 2147483648L).append(' ').append(sum % 2147483648L - 2147483648L).toString();
    }

    private static void theBodyOfASplit() {
        Script.run("two points, day 0", "square 20000", "cut 1 0 0 0 20000 20000 -> 2",
                "log -> " + record(65536 + 5, 32768, 1, 0, 655380000));
        Script.run("day 30000, lot 3, entry 2", "square 20000", "cut 1 0 1 0 1 20000 -> 2",
                "cut 3 30000 0 0 1 20000 -> 4",
                "log -> " + record(65541, 32768, 1, 32768, 32768 + 20000) + " "
                        + record(65541, 2 * 32768 + 30000, 3, 0, 32768 + 20000));
        Script.run("three points, in their order", "square 10", "cut 1 7 5 10 4 6 5 0 -> 2",
                "log -> " + record(65542, 32775, 1, 5 * 32768 + 10, 4 * 32768 + 6, 5 * 32768));
        Script.run("points at which the chain goes straight on", "square 10", "cut 1 7 5 0 5 4 5 10 -> 2",
                "log -> " + record(65542, 32775, 1, 5 * 32768, 5 * 32768 + 4, 5 * 32768 + 10));
    }

    private static void theBodyOfAMergeAsItWasCalled() {
        String split = record(65541, 32768, 1, 5 * 32768, 5 * 32768 + 10);
        Script.run("the lesser first", "square 10", "cut 1 0 5 0 5 10 -> 2", "merge 2 3 30000 -> 4",
                "log -> " + split + " " + record(2 * 65536 + 3, 2 * 32768 + 30000, 2 * 65536 + 3));
        Script.run("the greater first", "square 10", "cut 1 0 5 0 5 10 -> 2", "merge 3 2 0 -> 4",
                "log -> " + split + " " + record(2 * 65536 + 3, 2 * 32768, 3 * 65536 + 2));
    }

    private static void theBodyOfATransfer() {
        Script.run("all of it", "square 10", "transfer 1 0 99 1 1 30000 -> 1",
                "log -> " + record(3 * 65536 + 4, 32768 + 30000, 16384 + 99, 5040));
        Script.run("one part", "square 10", "transfer 1 0 99 1 1 0", "transfer 1 99 0 1 5040 0 -> 2",
                "word 6 -> 196612", "word 7 -> 65536", "word 8 -> " + (16384 + 99 * 128), "word 9 -> 1",
                "word 10 -> " + (4 - 2147483648L));
        Script.run("parts that cancel out", "square 10", "transfer 1 0 1 6 8 0", "word 3 -> 3780",
                "transfer 1 0 1 3 12 0", "word 9 -> 1260", "word 8 -> 16385");
    }

    private static void theBodyOfAnEaseAndARelease() {
        Script.run("over a lot for another one", "square 10", "cut 1 0 5 0 5 10 -> 2", "ease 3 2 5 -> 1",
                "ease 2 3 5 -> 2", "release 2 6 -> 4", "release 1 6 -> 5", "word 7 -> 262147", "word 8 -> 65541",
                "word 9 -> 196610", "word 10 -> -2147483645",
                "word 11 -> " + (262147 + 2 * 65541 + 3 * 196610 - 2147483648L), "word 14 -> 131075",
                "word 17 -> 327683", "word 18 -> " + (4 * 32768 + 6), "word 19 -> 2", "word 24 -> 1",
                "word 25 -> -2147483645", "many 3 -> 27");
    }

    private static void theSumModulo2147483648() {
        // 65541 + 2 * (32768 + day) + 3 + 4 * (32768 * x + 20000) + 5 * y of the ends x,20000 and 0,y
        Script.run("one below", "square 20000", "cut 1 534 16382 20000 0 9999 -> 2", "word 6 -> -1");
        Script.run("just that", "square 20000", "cut 1 532 16382 20000 0 10000 -> 2", "word 6 -> -2147483648");
        Script.run("one above", "square 20000", "cut 1 530 16382 20000 0 10001 -> 2", "word 6 -> -2147483647");
        // and twice that, with the ends x,20000 and 20000,y
        Script.run("one below twice that", "square 20000", "cut 1 534 7766 20000 20000 9999 -> 2", "word 6 -> -1");
        Script.run("twice that", "square 20000", "cut 1 532 7766 20000 20000 10000 -> 2", "word 6 -> -2147483648",
                "crash 7 -> 7", "mount -> 1");
        Script.run("one above twice that", "square 20000", "cut 1 530 7766 20000 20000 10001 -> 2",
                "word 6 -> -2147483647", "crash 7 -> 7", "mount -> 1");
    }

    private static void refusedDeedsPutNoRecord() {
        Script.run("refused, wrong and asked", Script.join(ALL_KINDS, "merge 4 4 14 -> -3",
                "transfer 4 0 1 1 11 14 -> -3", "cut 4 14 1 1 2 2 -> -3", "release 1 14 -> -1",
                "transfer 2 0 1 1 1 13 -> -2", "merge 9 9 9 -> index", "area2 4 14 9 -> 20000", "many 3 -> 34",
                "many 1 -> 6", "sync -> 34", "merge 4 4 14 -> -3", "sync -> 0"));
    }

    private static void wordsOfTheLog() {
        Script.run("none", "word 0 -> index", "square 10", "word 0 -> index", "word -1 -> index");
        Script.run("the first and the last", Script.join(ALL_KINDS, "word 0 -> 65541", "word 33 -> "
                + (2 * 65536 + 3 + 2 * (6 * 32768 + 14) + 3 * (3 * 65536 + 2) - 2147483648L), "word 34 -> index",
                "word -1 -> index", "word 2147483647 -> index", "word -2147483648 -> index"));
        Script.run("of what a crash and a mount leave", Script.join(ALL_KINDS, "crash 9 -> 9",
                "word 8 -> " + (2 * 32768 + 11), "word 9 -> index", "mount -> 1",
                "word 6 -> " + lastWordOf(65541, 32778, 1, 50 * 32768, 50 * 32768 + 100), "word 7 -> index"));
    }

    private static String lastWordOf(long... body) {
        String record = record(body);
        return record.substring(record.lastIndexOf(' ') + 1);
    }

    private static void whatIsCounted() {
        Script.run("another what", "many -1 -> index", "many 5 -> index", "many 2147483647 -> index",
                "many -2147483648 -> index", "counts -> 0 0 0 0 0", "square 10", "many -1 -> index", "many 5 -> index",
                "counts -> 1 0 0 0 0", "crash 0", "many -1 -> index", "many 5 -> index");
        Script.run("ended lots and released easements, too", Script.join(ALL_KINDS, "counts -> 4 6 1 34 0"));
    }

    private static void whatIsCountedWhenItIsDown() {
        for (int kept = 0; kept <= 34; kept++) {
            Script.run("as before the crash, but for words", Script.join(ALL_KINDS, "crash " + kept + " -> " + kept,
                    "counts -> 4 6 1 " + kept + " 0"));
        }
        Script.run("what was synced", Script.join(ALL_KINDS, "sync -> 34", "cut 4 20 0 0 100 100 -> 5", "crash 3 -> 37",
                "counts -> 6 7 1 37 34", "mount -> 6", "counts -> 4 6 1 34 34"));
        Script.run("without a district", "crash 0 -> state", "mount -> state", "counts -> 0 0 0 0 0");
    }

    private static void syncedOrNot() {
        Script.run("how many were not", "square 10", "sync -> 0", "transfer 1 0 1 1 2 0 -> 1", "many 4 -> 0",
                "sync -> 6", "many 4 -> 6", "sync -> 0", "cut 1 0 5 0 5 10 -> 2", "counts -> 3 2 0 13 6",
                "ease 2 3 0 -> 1", "sync -> 12", "counts -> 3 3 1 18 18", "sync -> 0");
    }

    private static void aCrashKeepsWhatIsSynced() {
        Script.run("all is synced", Script.join(ALL_KINDS, "sync -> 34", "crash 0 -> 34", "counts -> 4 6 1 34 34",
                "mount -> 6", "counts -> 4 6 1 34 34"));
        Script.run("a part is synced", Script.join(ALL_KINDS, "sync -> 34", "transfer 4 0 1 1 3 20 -> 7",
                "crash 0 -> 34", "mount -> 6", "share 4 1 20 9 -> 0"));
        Script.run("nothing is synced", Script.join(ALL_KINDS, "crash 0 -> 0", "mount -> 0", "counts -> 1 0 0 0 0",
                "area2 1 30000 9 -> 20000"));
    }

    private static void aCrashKeepsAsManyAsItSays() {
        String[] some = Script.join(ALL_KINDS, "sync -> 34", "transfer 4 0 1 1 3 20 -> 7");
        Script.run("one", Script.join(some, "crash 1 -> 35", "mount -> 6", "many 3 -> 34"));
        Script.run("all but one", Script.join(some, "crash 5 -> 39", "mount -> 6", "many 3 -> 34"));
        Script.run("all", Script.join(some, "crash 6 -> 40", "mount -> 7", "many 3 -> 40"));
        Script.run("more than all", Script.join(some, "crash 7 -> 40", "mount -> 7", "many 3 -> 40"));
        Script.run("much more than all", Script.join(some, "crash 2147483647 -> 40", "mount -> 7", "many 3 -> 40"));
        Script.run("less than none", Script.join(some, "crash -1 -> argument", "crash -2147483648 -> argument",
                "sync -> 6", "crash 0 -> 40", "mount -> 7"));
    }

    private static void aCrashOfNothing() {
        Script.run("an empty log", "square 10", "crash 5 -> 0", "counts -> 1 0 0 0 0", "mount -> 0",
                "area2 1 0 0 -> 200", "transfer 1 0 1 1 2 0 -> 1");
    }

    private static void downThen() {
        Script.run("every call", Script.join(ALL_KINDS, "crash 34 -> 34", "cut 4 20 0 0 100 100 -> state",
                "merge 4 4 20 -> state", "transfer 4 0 1 1 3 20 -> state", "ease 4 4 20 -> state",
                "release 1 20 -> state", "lotAt 5 5 20 9 -> state", "area2 4 20 9 -> state",
                "share 4 0 20 9 -> state", "next 4 0 20 9 -> state", "burden 4 0 20 9 -> state",
                "parent 4 0 -> state", "child 4 0 -> state", "corners 4 -> state", "corner 4 0 -> state",
                "open -> state", "sync -> state", "crash 0 -> state", "many 1 -> 6", "word 0 -> 65541",
                "point 5 5 -> 1", "mount -> 6", "area2 4 20 9 -> 20000", "sync -> 0"));
    }

    /** Torn at each word: all is as after the deeds whose records are whole. */
    private static void recordsThatAreWhole() {
        for (int kept = 0; kept <= 34; kept++) {
            int whole = 0;
            while (whole < 6 && ENDS[whole + 1] <= kept) {
                whole++;
            }
            String[] before = Script.join(Arrays.copyOf(ALL_KINDS, 1 + whole), "sync -> " + ENDS[whole]);
            String[] torn = Script.join(ALL_KINDS, "crash " + kept + " -> " + kept, "mount -> " + whole,
                    "counts -> " + COUNTS[whole] + " " + ENDS[whole] + " " + ENDS[whole], "sync -> 0");
            Script.same("torn behind " + kept + " words", before, torn);
        }
    }

    /** The same behind each sync: what is synced stays, however few words the crash keeps. */
    private static void tornBehindWhatIsSynced() {
        for (int synced = 0; synced <= 6; synced++) {
            for (int deeds = synced; deeds <= 6; deeds++) {
                List<String> lines = new ArrayList<>(List.of(Arrays.copyOf(ALL_KINDS, 1 + synced)));
                lines.add("sync -> " + ENDS[synced]);
                lines.addAll(List.of(Arrays.copyOfRange(ALL_KINDS, 1 + synced, 7)));
                int kept = ENDS[deeds] - ENDS[synced];
                int torn = Math.min(34, ENDS[deeds] + 4);
                lines.add("crash " + (kept + 4) + " -> " + torn);
                lines.add("mount -> " + deeds);
                lines.add("counts -> " + COUNTS[deeds] + " " + ENDS[deeds] + " " + ENDS[deeds]);
                String[] before = Script.join(Arrays.copyOf(ALL_KINDS, 1 + deeds), "sync");
                Script.same("synced and torn", before, lines.toArray(new String[0]));
            }
        }
    }

    private static void whatIsLeftIsSynced() {
        Script.run("by the mount", Script.join(ALL_KINDS, "crash 13 -> 13", "many 4 -> 0", "mount -> 2", "many 4 -> 12",
                "many 3 -> 12", "sync -> 0", "crash 0 -> 12", "mount -> 2", "counts -> 3 2 1 12 12"));
    }

    private static void mountWhenItIsNotDown() {
        Script.run("nothing is lost", Script.join(ALL_KINDS, "mount -> 6", "counts -> 4 6 1 34 34", "sync -> 0",
                "transfer 4 0 1 1 3 20 -> 7", "mount -> 7", "counts -> 4 7 1 40 40", "crash 0 -> 40", "mount -> 7",
                "share 4 1 20 9 -> 1680"));
        Script.same("only the words are synced", Script.join(ALL_KINDS, "sync -> 34"), Script.join(ALL_KINDS,
                "mount -> 6"));
        Script.run("without any deed", "square 10", "mount -> 0", "mount -> 0", "area2 1 0 0 -> 200",
                "counts -> 1 0 0 0 0");
    }

    private static void allIsAsItWas() {
        Script.run("a lot is in being again", Script.join(ALL_KINDS, "crash 33 -> 33", "mount -> 5",
                "area2 2 30000 9 -> 10000", "area2 3 30000 9 -> 10000", "area2 4 30000 9 -> index",
                "family 2 -> 1 0 0 0", "near 2 30000 9 -> 3 0", "lotAt 50 50 30000 9 -> 2", "merge 2 3 13 -> 4",
                "word 30 -> " + (6 * 32768 + 13)));
        Script.run("an easement stands again", Script.join(ALL_KINDS, "crash 16 -> 16", "mount -> 2",
                "burdens 3 30000 9 -> 1 0", "release 1 11 -> 3", "burdens 3 11 9 -> 0"));
        Script.run("an easement is gone", Script.join(ALL_KINDS, "crash 11 -> 11", "mount -> 1",
                "burdens 3 30000 9 -> 0", "release 1 12 -> index", "ease 2 3 10 -> 1", "burdens 2 10 9 -> 1 0",
                "burdens 3 10 9 -> 0"));
        Script.run("shares are as before", Script.join(ALL_KINDS, "crash 28 -> 28", "mount -> 4",
                "share 2 7 13 9 -> 1680", "share 3 7 13 9 -> 0", "merge 2 3 14 -> -3", "transfer 3 0 7 1 3 12 -> 5"));
        Script.run("the district alone", Script.join(ALL_KINDS, "crash 6 -> 6", "mount -> 0", "family 1 -> 0 0 0 0",
                "lotAt 99 99 30000 9 -> 1", "cut 1 0 0 50 100 50 -> 2", "ring 2 -> 0,0 100,0 100,50 0,50",
                "share 2 0 0 9 -> 5040", "burdens 3 0 9 -> 0"));
    }

    private static void numbersAreUsedAgain() {
        Script.run("of lots, easements and entries", Script.join(ALL_KINDS, "crash 0 -> 0", "mount -> 0",
                "cut 1 3 0 20 100 20 -> 2", "ring 3 -> 0,20 100,20 100,100 0,100", "ease 2 3 4 -> 1",
                "release 1 5 -> 3", "transfer 2 0 1 1 2 5 -> 4", "counts -> 3 4 1 23 0", "word 1 -> " + (32768 + 3),
                "word 18 -> " + (4 * 32768 + 5), "share 2 1 5 9 -> 2520", "share 3 1 5 9 -> 0",
                "share 2 7 30000 9 -> 0"));
    }

    private static void tornAgainAndAgain() {
        Script.run("each time a little less", Script.join(ALL_KINDS, "crash 30 -> 30", "mount -> 5",
                "transfer 2 0 8 1 3 20 -> 6", "crash 5 -> 34", "mount -> 5", "transfer 2 0 8 1 3 20 -> 6",
                "crash 6 -> 35", "mount -> 6", "share 2 8 20 9 -> 1680", "transfer 2 8 0 1 3 20 -> 7", "sync -> 6",
                "transfer 2 0 8 1 3 20 -> 8", "crash 3 -> 44", "mount -> 7", "share 2 8 20 9 -> 0", "many 3 -> 41"));
    }

    private static void mounted40TimesAlready() {
        List<String> lines = new ArrayList<>(List.of("square 10", "transfer 1 0 1 1 2 0 -> 1"));
        for (int i = 1; i <= 39; i++) {
            if (i % 2 == 0) {
                lines.add("crash 0 -> 6");
            }
            lines.add("mount -> 1");
        }
        String[] often = lines.toArray(new String[0]);
        Script.run("the 40th when it is up", Script.join(often, "mount -> 1", "mount -> unsupported",
                "mount -> unsupported", "share 1 1 0 1 -> 2520", "transfer 1 0 1 1 2 0 -> 2", "many 4 -> 6",
                "sync -> 6"));
        Script.run("the 40th when it is down", Script.join(often, "crash 0 -> 6", "mount -> 1",
                "transfer 1 0 1 1 2 0 -> 2", "crash 3 -> 9", "mount -> unsupported", "counts -> 1 2 0 9 6",
                "sync -> state", "share 1 1 0 1 -> state", "mount -> unsupported", "word 8 -> 16385"));
    }

    private static void mountsThatThrowAreNotCounted() {
        List<String> lines = new ArrayList<>(List.of("mount -> state", "mount -> state", "square 10"));
        for (int i = 1; i <= 40; i++) {
            lines.add("mount -> 0");
        }
        lines.add("mount -> unsupported");
        lines.add("area2 1 0 0 -> 200");
        Script.run("without a district", lines.toArray(new String[0]));
    }
}
