import java.util.ArrayDeque;
import java.util.ArrayList;
import java.util.Arrays;
import java.util.List;
import java.util.Set;
import java.util.TreeSet;

/**
 * The document's words taken literally, for lots made of unit cells of a small grid: every answer
 * counts all deeds in force anew, by day and those of one day by entry. It shares no idea with the
 * program: no ring, no stored state but the accepted deeds, no arithmetic but counting cells.
 */
final class GridModel {
    static final int SIZE = 6;

    /** An accepted deed, with what it named, and what it began. */
    static final class Deed {
        int kind;
        int day;
        int entry;
        int[] args;
        Set<Integer> names = new TreeSet<>();
        int born;
        int words;
    }

    /** What is so as of a day and an entry. */
    static final class World {
        Set<Integer> lots = new TreeSet<>();
        int[][] shares = new int[1000][];
        List<Set<Integer>> burdens = new ArrayList<>();
        Set<Integer> standing = new TreeSet<>();

        World() {
            for (int i = 0; i < 1000; i++) {
                burdens.add(new TreeSet<>());
            }
        }
    }

    final List<Deed> deeds = new ArrayList<>();
    final List<boolean[]> cells = new ArrayList<>();
    final List<int[]> row = new ArrayList<>();
    int easements;
    int words;
    int synced;
    boolean down;

    GridModel(boolean[] district) {
        cells.add(null);
        cells.add(district);
    }

    int lots() {
        return cells.size() - 1;
    }

    World world(int day, int entry) {
        World world = new World();
        world.lots.add(1);
        world.shares[1] = new int[100];
        world.shares[1][0] = 5040;
        List<Deed> inForce = new ArrayList<>();
        for (Deed deed : deeds) {
            if (deed.day <= day && deed.entry <= entry) {
                inForce.add(deed);
            }
        }
        inForce.sort((a, b) -> a.day != b.day ? a.day - b.day : a.entry - b.entry);
        for (Deed deed : inForce) {
            apply(world, deed);
        }
        return world;
    }

    private static void apply(World world, Deed deed) {
        int[] args = deed.args;
        switch (deed.kind) {
            case 1:
                for (int child = deed.born; child < deed.born + 2; child++) {
                    begin(world, child, args[0], args[0]);
                }
                world.lots.remove(args[0]);
                break;
            case 2:
                begin(world, deed.born, args[0], args[1]);
                world.lots.remove(args[0]);
                world.lots.remove(args[1]);
                break;
            case 3:
                world.shares[args[0]][args[1]] -= args[3];
                world.shares[args[0]][args[2]] += args[3];
                break;
            case 4:
                world.standing.add(deed.born);
                world.burdens.get(args[0]).add(deed.born);
                break;
            default:
                world.standing.remove(args[0]);
                for (Set<Integer> burdens : world.burdens) {
                    burdens.remove(args[0]);
                }
        }
    }

    private static void begin(World world, int child, int a, int b) {
        world.lots.add(child);
        world.shares[child] = world.shares[a].clone();
        world.burdens.get(child).addAll(world.burdens.get(a));
        world.burdens.get(child).addAll(world.burdens.get(b));
    }

    private World today(int day) {
        return world(day, deeds.size());
    }

    private int objection(World world, Set<Integer> names, int day) {
        if (!world.lots.containsAll(names)) {
            return -1;
        }
        return late(names, day) ? -2 : 0;
    }

    private boolean late(Set<Integer> names, int day) {
        for (Deed deed : deeds) {
            for (int name : names) {
                if (deed.day > day && deed.names.contains(name)) {
                    return true;
                }
            }
        }
        return false;
    }

    private Deed accept(int kind, int day, Set<Integer> names, int bodyWords, int... args) {
        Deed deed = new Deed();
        deed.kind = kind;
        deed.day = day;
        deed.entry = deeds.size() + 1;
        deed.args = args;
        deed.names = names;
        deed.words = bodyWords + 2;
        deeds.add(deed);
        words += deed.words;
        return deed;
    }

    int split(int lot, int day) {
        List<int[]> chain = new ArrayList<>(row);
        row.clear();
        Set<Integer> names = new TreeSet<>(Set.of(lot));
        int objection = objection(today(day), names, day);
        if (objection != 0) {
            return objection;
        }
        boolean[][] pieces = cut(cells.get(lot), chain);
        if (pieces == null) {
            return -3;
        }
        if (lots() + 2 > 300 || corners(pieces[0]).size() > 60 || corners(pieces[1]).size() > 60) {
            return -4;
        }
        Deed deed = accept(1, day, names, 3 + chain.size(), lot);
        deed.born = cells.size();
        cells.add(pieces[0]);
        cells.add(pieces[1]);
        return deed.born;
    }

    int merge(int a, int b, int day) {
        Set<Integer> names = new TreeSet<>(List.of(a, b));
        World world = today(day);
        int objection = objection(world, names, day);
        if (objection != 0) {
            return objection;
        }
        if (a == b || !oneLine(cells.get(a), cells.get(b)) || !Arrays.equals(world.shares[a], world.shares[b])) {
            return -3;
        }
        boolean[] both = cells.get(a).clone();
        for (int i = 0; i < both.length; i++) {
            both[i] |= cells.get(b)[i];
        }
        if (lots() + 1 > 300 || corners(both).size() > 60) {
            return -4;
        }
        Deed deed = accept(2, day, names, 3, a, b);
        deed.born = cells.size();
        cells.add(both);
        return deed.born;
    }

    int transfer(int lot, int from, int to, int num, int den, int day) {
        Set<Integer> names = new TreeSet<>(Set.of(lot));
        World world = today(day);
        int objection = objection(world, names, day);
        if (objection != 0) {
            return objection;
        }
        if (from == to || 5040 % den != 0 || (long) world.shares[lot][from] * den < (long) num * 5040) {
            return -3;
        }
        return accept(3, day, names, 4, lot, from, to, num * (5040 / den)).entry;
    }

    int ease(int over, int other, int day) {
        Set<Integer> names = new TreeSet<>(List.of(over, other));
        int objection = objection(today(day), names, day);
        if (objection != 0) {
            return objection;
        }
        if (over == other) {
            return -3;
        }
        if (easements == 200) {
            return -4;
        }
        Deed deed = accept(4, day, names, 3, over, other);
        easements++;
        deed.born = easements;
        return easements;
    }

    int release(int easement, int day) {
        World world = today(day);
        if (!world.standing.contains(easement)) {
            return -1;
        }
        Set<Integer> names = new TreeSet<>();
        for (int lot = 1; lot <= lots(); lot++) {
            if (world.burdens.get(lot).contains(easement)) {
                names.add(lot);
            }
        }
        if (late(names, day)) {
            return -2;
        }
        return accept(5, day, names, 3, easement).entry;
    }

    /** Keeps so many of the words that are not synced: the log's length. */
    int crash(int kept) {
        words = Math.min(words, synced + kept);
        down = true;
        return words;
    }

    int mount() {
        List<Deed> all = new ArrayList<>(deeds);
        int left = words;
        deeds.clear();
        words = 0;
        easements = 0;
        int lots = 1;
        for (Deed deed : all) {
            if (deed.words > left) {
                break;
            }
            left -= deed.words;
            words += deed.words;
            deeds.add(deed);
            lots += deed.kind == 1 ? 2 : deed.kind == 2 ? 1 : 0;
            easements += deed.kind == 4 ? 1 : 0;
        }
        while (lots() > lots) {
            cells.remove(lots());
        }
        synced = words;
        down = false;
        return deeds.size();
    }

    // ---- cells ----

    static boolean has(boolean[] lot, int x, int y) {
        return x >= 0 && y >= 0 && x < SIZE && y < SIZE && lot[y * SIZE + x];
    }

    /** How many of the four cells round a crossing are in the lot. */
    private static int round(boolean[] lot, int x, int y) {
        int count = 0;
        for (int k = 0; k < 4; k++) {
            count += has(lot, x - k % 2, y - k / 2) ? 1 : 0;
        }
        return count;
    }

    static boolean holds(boolean[] lot, int x, int y) {
        return round(lot, x, y) > 0;
    }

    static boolean onRing(boolean[] lot, int x, int y) {
        int round = round(lot, x, y);
        return round > 0 && round < 4;
    }

    /** The two pieces along a chain of level and upright sides, the one at its right first. */
    static boolean[][] cut(boolean[] lot, List<int[]> chain) {
        List<int[]> path = new ArrayList<>();
        for (int i = 0; i < chain.size(); i++) {
            int[] to = chain.get(i);
            int[] from = i == 0 ? to : chain.get(i - 1);
            int steps = Math.max(Math.abs(to[0] - from[0]), Math.abs(to[1] - from[1]));
            if (i > 0 && steps == 0) {
                return null;
            }
            for (int k = i == 0 ? 0 : 1; k <= steps; k++) {
                path.add(new int[] {from[0] + k * Integer.signum(to[0] - from[0]),
                    from[1] + k * Integer.signum(to[1] - from[1])});
            }
        }
        if (path.size() < 2 || !fits(lot, path)) {
            return null;
        }
        boolean[][] pieces = {flood(lot, path, true), flood(lot, path, false)};
        return pieces;
    }

    private static boolean fits(boolean[] lot, List<int[]> path) {
        Set<String> seen = new TreeSet<>();
        for (int i = 0; i < path.size(); i++) {
            int[] p = path.get(i);
            boolean end = i == 0 || i == path.size() - 1;
            if (!seen.add(p[0] + "," + p[1]) || onRing(lot, p[0], p[1]) != end || round(lot, p[0], p[1]) == 0) {
                return false;
            }
        }
        for (int i = 0; i + 1 < path.size(); i++) {
            int[] right = beside(path, i, true);
            int[] left = beside(path, i, false);
            if (!has(lot, right[0], right[1]) || !has(lot, left[0], left[1])) {
                return false;
            }
        }
        return true;
    }

    /** The cell at the right or at the left of a step of the path. */
    private static int[] beside(List<int[]> path, int i, boolean right) {
        int[] a = path.get(i);
        int[] b = path.get(i + 1);
        int dx = b[0] - a[0];
        int dy = b[1] - a[1];
        int sign = right ? 1 : -1;
        // the middle of the step, doubled, and half a cell to the side
        int mx = a[0] + b[0] + sign * dy;
        int my = a[1] + b[1] - sign * dx;
        return new int[] {Math.floorDiv(mx, 2), Math.floorDiv(my, 2)};
    }

    private static boolean[] flood(boolean[] lot, List<int[]> path, boolean right) {
        Set<String> walls = new TreeSet<>();
        for (int i = 0; i + 1 < path.size(); i++) {
            walls.add(wall(beside(path, i, true), beside(path, i, false)));
        }
        boolean[] piece = new boolean[SIZE * SIZE];
        ArrayDeque<int[]> open = new ArrayDeque<>();
        int[] start = beside(path, 0, right);
        piece[start[1] * SIZE + start[0]] = true;
        open.add(start);
        while (!open.isEmpty()) {
            int[] cell = open.remove();
            for (int k = 0; k < 4; k++) {
                int[] to = {cell[0] + (k == 0 ? 1 : k == 1 ? -1 : 0), cell[1] + (k == 2 ? 1 : k == 3 ? -1 : 0)};
                if (has(lot, to[0], to[1]) && !piece[to[1] * SIZE + to[0]] && !walls.contains(wall(cell, to))) {
                    piece[to[1] * SIZE + to[0]] = true;
                    open.add(to);
                }
            }
        }
        return piece;
    }

    private static String wall(int[] a, int[] b) {
        int first = a[1] * 100 + a[0];
        int second = b[1] * 100 + b[0];
        return Math.min(first, second) + ":" + Math.max(first, second);
    }

    /** Whether one step between two crossings has a cell of the one lot and one of the other beside it. */
    private static boolean commonStep(boolean[] a, boolean[] b, int x, int y, boolean level) {
        int ox = level ? x : x - 1;
        int oy = level ? y - 1 : y;
        return has(a, x, y) && has(b, ox, oy) || has(b, x, y) && has(a, ox, oy);
    }

    static boolean beside(boolean[] a, boolean[] b) {
        return commonSteps(a, b) > 0;
    }

    private static int commonSteps(boolean[] a, boolean[] b) {
        int steps = 0;
        for (int x = 0; x <= SIZE; x++) {
            for (int y = 0; y <= SIZE; y++) {
                steps += commonStep(a, b, x, y, true) ? 1 : 0;
                steps += commonStep(a, b, x, y, false) ? 1 : 0;
            }
        }
        return steps;
    }

    /** A tree without branches: connected, one crossing more than steps, no more than two steps at each. */
    private static boolean oneLine(boolean[] a, boolean[] b) {
        int steps = commonSteps(a, b);
        int crossings = 0;
        int[] startAt = null;
        for (int x = 0; x <= SIZE; x++) {
            for (int y = 0; y <= SIZE; y++) {
                if (onRing(a, x, y) && onRing(b, x, y)) {
                    crossings++;
                    startAt = new int[] {x, y};
                    if (stepsAt(a, b, x, y).size() > 2) {
                        return false;
                    }
                }
            }
        }
        if (steps == 0 || crossings != steps + 1) {
            return false;
        }
        Set<String> reached = new TreeSet<>();
        ArrayDeque<int[]> open = new ArrayDeque<>();
        open.add(startAt);
        while (!open.isEmpty()) {
            int[] at = open.remove();
            if (reached.add(at[0] + "," + at[1])) {
                open.addAll(stepsAt(a, b, at[0], at[1]));
            }
        }
        return reached.size() == crossings;
    }

    private static List<int[]> stepsAt(boolean[] a, boolean[] b, int x, int y) {
        List<int[]> ends = new ArrayList<>();
        if (commonStep(a, b, x, y, true)) {
            ends.add(new int[] {x + 1, y});
        }
        if (commonStep(a, b, x - 1, y, true)) {
            ends.add(new int[] {x - 1, y});
        }
        if (commonStep(a, b, x, y, false)) {
            ends.add(new int[] {x, y + 1});
        }
        if (commonStep(a, b, x, y - 1, false)) {
            ends.add(new int[] {x, y - 1});
        }
        return ends;
    }

    static int area(boolean[] lot) {
        int count = 0;
        for (boolean cell : lot) {
            count += cell ? 1 : 0;
        }
        return count;
    }

    /** The corners, walking round with the lot at the left, from the least x and then the least y. */
    static List<int[]> corners(boolean[] lot) {
        int[] start = null;
        for (int x = 0; x <= SIZE && start == null; x++) {
            for (int y = 0; y <= SIZE && start == null; y++) {
                start = round(lot, x, y) == 1 ? new int[] {x, y} : null;
            }
        }
        List<int[]> corners = new ArrayList<>();
        int x = start[0];
        int y = start[1];
        int dx = 1;
        int dy = 0;
        do {
            corners.add(new int[] {x, y});
            do {
                x += dx;
                y += dy;
            } while (round(lot, x, y) == 2);
            // one cell: turn left; three: turn right
            boolean turnLeft = round(lot, x, y) == 1;
            int tx = turnLeft ? -dy : dy;
            dy = turnLeft ? dx : -dx;
            dx = tx;
        } while (x != start[0] || y != start[1]);
        return corners;
    }
}
