/**
 * The exceptions of every call: where several fit it is the one that the call names first, and a
 * call that throws changes nothing but for the row.
 */
final class ThrowEdgeTest {
    /** Lots 2 and 3 in being from day 10 on, with one easement over lot 2; 3 lots and 1 easement in all. */
    private static final String[] UP = {"square 10 -> true", "cut 1 10 5 0 5 10 -> 2", "ease 2 3 10 -> 1", "sync -> 12",
        "transfer 2 0 1 1 2 10 -> 3"};

    /** Each call that looks for a district, with arguments that are all wrong. */
    private static final String[] ALL_WRONG = {"split 0 -1", "merge 0 0 -1", "transfer 0 -1 -1 0 0 -1", "ease 0 0 -1",
        "release 0 -1", "lotAt -1 -1 -1 -1", "area2 0 -1 -1", "share 0 -1 -1 -1", "next 0 -1 -1 -1",
        "burden 0 -1 -1 -1", "parent 0 -1", "child 0 -1", "corners 0", "corner 0 -1", "sync", "crash -1"};

    /** Each call that names a lot or an easement, with one that there is not, and with wrong arguments. */
    private static final String[] NO_SUCH = {"split 4 0", "split 0 30001", "split 4 -1", "merge 4 2 10", "merge 2 4 10",
        "merge 0 2 -1", "merge 2 4 30001", "merge 4 4 30001", "transfer 4 0 1 1 1 10", "transfer 0 -1 1 1 1 10",
        "transfer 4 0 100 1 1 10", "transfer 4 0 1 0 1 10", "transfer 4 0 1 1 5041 10", "transfer 4 0 1 1 1 -1",
        "ease 4 2 10", "ease 2 4 10", "ease 0 2 -1", "ease 2 0 30001", "release 2 10", "release 0 10", "release 2 -1",
        "release 0 30001", "area2 4 0 0", "area2 0 -1 0", "area2 4 0 -1", "share 4 0 0 0", "share 4 100 0 0",
        "share 0 -1 0 0", "share 4 0 30001 0", "share 4 0 0 -1", "next 4 0 0 0", "next 0 -1 0 0", "next 4 0 -1 0",
        "next 4 0 0 -1", "burden 4 0 0 0", "burden 0 -1 0 0", "burden 4 0 30001 0", "burden 4 0 0 -1", "parent 4 0",
        "parent 4 2", "parent 2 -1", "parent 2 2", "child 4 0", "child 4 2", "child 2 -1", "child 2 2", "corners 4",
        "corners 0", "corner 4 0", "corner 0 0", "corner 2 4", "corner 2 -1", "corner 4 4", "many -1", "many 5",
        "word -1", "word 18"};

    /** Each call with one argument that is none, or with several. */
    private static final String[] NONE_SUCH = {"point -1 0", "point 0 -1", "point 20001 0", "point 0 20001",
        "split 2 -1", "split 2 30001", "split 1 -1", "merge 2 3 -1", "merge 2 3 30001", "merge 2 2 -1",
        "merge 1 1 30001", "transfer 2 -1 1 1 1 10", "transfer 2 100 1 1 1 10", "transfer 2 0 -1 1 1 10",
        "transfer 2 0 100 1 1 10", "transfer 2 0 1 0 1 10", "transfer 2 0 1 5041 1 10", "transfer 2 0 1 1 0 10",
        "transfer 2 0 1 1 5041 10", "transfer 2 0 1 1 1 -1", "transfer 2 0 1 1 1 30001", "transfer 1 0 0 1 0 10",
        "transfer 1 0 0 1 11 -1", "ease 2 3 -1", "ease 2 3 30001", "ease 2 2 -1", "ease 1 1 30001", "release 1 -1",
        "release 1 30001", "lotAt -1 0 0 0", "lotAt 0 -1 0 0", "lotAt 20001 0 0 0", "lotAt 0 20001 0 0",
        "lotAt 0 0 -1 0", "lotAt 0 0 30001 0", "lotAt 0 0 0 -1", "area2 2 -1 0", "area2 2 30001 0", "area2 2 0 -1",
        "share 2 -1 10 3", "share 2 100 10 3", "share 2 0 -1 3", "share 2 0 30001 3", "share 2 0 10 -1",
        "share 1 100 10 3", "next 2 -1 10 3", "next 2 0 -1 3", "next 2 0 30001 3", "next 2 0 10 -1", "next 1 -1 10 3",
        "burden 2 -1 10 3", "burden 2 0 -1 3", "burden 2 0 30001 3", "burden 2 0 10 -1", "burden 1 -1 10 3",
        "crash -1", "crash -2147483648"};

    public static void main(String[] args) {
        noDistrict();
        down();
        noSuchLotOrEasement();
        wrongArguments();
        nothingChangesWhenItIsUp();
        nothingChangesWhenItIsDown();
        nothingChangesWithoutADistrict();
        Check.end();
    }

    private static String[] due(String[] calls, String exception) {
        String[] lines = new String[calls.length];
        for (int i = 0; i < calls.length; i++) {
            lines[i] = calls[i] + " -> " + exception;
        }
        return lines;
    }

    private static void noDistrict() {
        Script.run("no district, and all arguments wrong", due(ALL_WRONG, "state"));
        Script.run("no district", "cut 1 0 0 0 9 9 -> state", "merge 1 2 0 -> state", "transfer 1 0 1 1 1 0 -> state",
                "ease 1 2 0 -> state", "release 1 0 -> state", "lotAt 0 0 0 0 -> state", "area2 1 0 0 -> state",
                "share 1 0 0 0 -> state", "next 1 0 0 0 -> state", "burden 1 0 0 0 -> state", "parent 1 0 -> state",
                "child 1 0 -> state", "corners 1 -> state", "corner 1 0 -> state", "sync -> state", "crash 0 -> state",
                "mount -> state", "many 0 -> 0", "word 0 -> index", "open -> false");
        Script.run("a row that is no ring makes no district", Script.join(new String[] {"row 0 0 9 9", "open -> false"},
                due(ALL_WRONG, "state")));
    }

    private static void down() {
        Script.run("down, and all arguments wrong", Script.join(UP, Script.join(new String[] {"crash 0 -> 12"},
                due(ALL_WRONG, "state"))));
        Script.run("down, and up again", Script.join(UP, Script.join(new String[] {"crash 0 -> 12", "mount -> 2"},
                "corners 2 -> 4", "sync -> 0", "split 2 -1 -> argument", "crash -1 -> argument")));
    }

    private static void noSuchLotOrEasement() {
        for (String call : NO_SUCH) {
            Script.run("no such thing", Script.join(UP, call + " -> index"));
        }
    }

    private static void wrongArguments() {
        for (String call : NONE_SUCH) {
            Script.run("a wrong argument", Script.join(UP, call + " -> argument"));
        }
    }

    private static void nothingChangesWhenItIsUp() {
        Script.unchanged("calls that throw", UP, due(NO_SUCH, "index"));
        Script.unchanged("calls that throw", UP, due(NONE_SUCH, "argument"));
        Script.unchanged("open", UP, "row 0 0 9 0 0 9", "open -> state", "square 7 -> state");
        Script.unchanged("split, but for the row", UP, "cut 4 10 5 5 10 5 -> index",
                "cut 2 30001 5 5 10 5 -> argument");
    }

    private static void nothingChangesWhenItIsDown() {
        String[] fallen = Script.join(UP, "crash 3 -> 15", "counts -> 3 3 1 15 12");
        String[] more = Script.join(due(ALL_WRONG, "state"), "square 7 -> state", "cut 2 10 5 5 10 5 -> state",
                "merge 2 3 10 -> state", "transfer 2 0 1 1 2 10 -> state", "ease 2 3 10 -> state",
                "release 1 10 -> state", "sync -> state", "crash 0 -> state", "many 5 -> index", "word 15 -> index");
        Script.same("calls that throw", Script.join(fallen, "mount -> 2"),
                Script.join(fallen, Script.join(more, "counts -> 3 3 1 15 12", "mount -> 2")));
    }

    private static void nothingChangesWithoutADistrict() {
        String[] first = Script.join(due(ALL_WRONG, "state"), "mount -> state", "word 0 -> index", "many 5 -> index",
                "point 20001 0 -> argument", "counts -> 0 0 0 0 0");
        Script.same("calls that throw", UP, Script.join(first, UP));
    }
}
