import java.util.ArrayList;
import java.util.List;
import java.util.Random;
import java.util.Set;
import java.util.TreeSet;

/** Long runs of calls by a fixed seed, each answer compared with that of the model. */
final class GridModelTest {
    private static final int RUNS = 300;
    private static final int CALLS = 512;
    private static final int UNIT = 7;

    private final Random random;
    private final LandBook book = new LandBook();
    private final GridModel model;
    private final int run;
    private final int days;
    private int mounts;
    private int calls;

    private GridModelTest(int run) {
        this.run = run;
        random = new Random(run);
        days = 1 + random.nextInt(12);
        boolean[] district = new boolean[GridModel.SIZE * GridModel.SIZE];
        int notch = random.nextInt(3);
        for (int i = 0; i < district.length; i++) {
            district[i] = i % GridModel.SIZE < GridModel.SIZE - notch || i / GridModel.SIZE >= notch;
        }
        model = new GridModel(district);
        for (int[] corner : GridModel.corners(district)) {
            book.point(corner[0] * UNIT, corner[1] * UNIT);
            calls++;
        }
        due("open", true, book::open);
    }

    public static void main(String[] args) {
        int[] kinds = new int[6];
        for (int run = 0; run < RUNS && Check.allRight(); run++) {
            GridModelTest test = new GridModelTest(run);
            while (test.calls < CALLS - 40 && Check.allRight()) {
                test.step();
            }
            for (GridModel.Deed deed : test.model.deeds) {
                kinds[deed.kind]++;
            }
        }
        for (int kind = 1; kind <= 5; kind++) {
            Check.that("deeds of kind " + kind + ": " + kinds[kind], kinds[kind] > RUNS);
        }
        Check.end();
    }

    private void due(String what, Object want, Check.Call call) {
        calls++;
        Check.due("run " + run + ", call " + calls + ": " + what, want, call);
    }

    private int below(int bound) {
        return random.nextInt(bound);
    }

    private int anyLot() {
        return lotOf(model.world(30000, 600));
    }

    /** Mostly a lot in being. */
    private int lotOf(GridModel.World world) {
        List<Integer> now = List.copyOf(world.lots);
        return below(8) == 0 ? 1 + below(model.lots()) : now.get(below(now.size()));
    }

    /** Days go on with the calls; some deeds are recorded later. */
    private int anyDay() {
        int today = days * calls / 16;
        return below(3) > 0 ? today : Math.max(0, today - below(8 * days));
    }

    private void step() {
        switch (below(16)) {
            case 0, 1, 2, 3, 4:
                split();
                break;
            case 5, 6, 7:
                merge();
                break;
            case 8:
                transfer();
                break;
            case 9, 10:
                int over = anyLot();
                int other = anyLot();
                int day = anyDay();
                due("ease " + over + " " + other + " " + day, model.ease(over, other, day),
                        () -> book.ease(over, other, day));
                break;
            case 11:
                release();
                break;
            case 12:
                crashOrSync();
                break;
            default:
                ask();
        }
        due("deeds", model.deeds.size(), () -> book.many(1));
    }

    private void split() {
        int lot = anyLot();
        int day = anyDay();
        List<int[]> chain = below(4) == 0 ? anyChain() : chainThrough(model.cells.get(lot));
        for (int k = 0; k < 30 && below(8) > 0 && GridModel.cut(model.cells.get(lot), chain) == null; k++) {
            chain = chainThrough(model.cells.get(lot));
        }
        int count = 0;
        for (int[] point : chain) {
            count++;
            due("point " + point[0] + " " + point[1], count, () -> book.point(point[0] * UNIT, point[1] * UNIT));
            model.row.add(point);
        }
        due("split " + lot + " " + day, model.split(lot, day), () -> book.split(lot, day));
    }

    /** Points anywhere, with level and upright sides between them. */
    private List<int[]> anyChain() {
        List<int[]> chain = new ArrayList<>();
        int points = below(8) == 0 ? below(3) : 2 + below(5);
        boolean level = below(2) == 0;
        int[] at = {below(GridModel.SIZE + 1), below(GridModel.SIZE + 1)};
        for (int i = 0; i < points; i++) {
            chain.add(at.clone());
            at[level ? 0 : 1] = below(GridModel.SIZE + 1);
            level = !level;
        }
        return chain;
    }

    /** A way that sets out from the ring, and mostly comes back to it without crossing itself. */
    private List<int[]> chainThrough(boolean[] lot) {
        List<int[]> chain = new ArrayList<>();
        int[] at = {below(GridModel.SIZE + 1), below(GridModel.SIZE + 1)};
        for (int k = 0; k < 50 && !GridModel.onRing(lot, at[0], at[1]); k++) {
            at = new int[] {below(GridModel.SIZE + 1), below(GridModel.SIZE + 1)};
        }
        chain.add(at);
        int dx = 0;
        int dy = 0;
        for (int k = 0; k < 8; k++) {
            if (k == 0 || below(3) == 0) {
                dx = below(2) == 0 ? 0 : 2 * below(2) - 1;
                dy = dx != 0 ? 0 : 2 * below(2) - 1;
            }
            int[] to = {at[0] + dx, at[1] + dy};
            if (to[0] < 0 || to[1] < 0 || to[0] > GridModel.SIZE || to[1] > GridModel.SIZE) {
                break;
            }
            chain.add(to);
            at = to;
            if (GridModel.onRing(lot, at[0], at[1])) {
                break;
            }
        }
        return chain;
    }

    private void merge() {
        int a = anyLot();
        int near = neighbour(model.world(30000, 600), a, below(3));
        int b = near == 0 || below(4) == 0 ? anyLot() : near;
        int day = anyDay();
        due("merge " + a + " " + b + " " + day, model.merge(a, b, day), () -> book.merge(a, b, day));
    }

    private void transfer() {
        int lot = anyLot();
        int from = below(3) * below(2);
        int to = below(3);
        int den = below(5) == 0 ? 1 + below(5040) : 1 + below(4);
        int num = 1 + below(2) * below(2);
        int day = anyDay();
        due("transfer " + lot + " " + from + " " + to + " " + num + "/" + den + " " + day,
                model.transfer(lot, from, to, num, den, day),
                () -> book.transfer(lot, from, to, num, den, day));
    }

    private void release() {
        if (model.easements > 0) {
            int easement = 1 + below(model.easements);
            int day = anyDay();
            due("release " + easement + " " + day, model.release(easement, day), () -> book.release(easement, day));
        }
    }

    private void crashOrSync() {
        if (below(2) == 0) {
            int fresh = model.words - model.synced;
            model.synced = model.words;
            due("sync", fresh, book::sync);
        } else if (mounts < 40 && below(3) == 0) {
            int kept = below(2) == 0 ? below(8) : below(60);
            int lots = model.lots();
            due("crash " + kept, model.crash(kept), () -> book.crash(kept));
            due("lots before the crash", lots, () -> book.many(0));
            mounts++;
            due("mount", model.mount(), book::mount);
            due("lots", model.lots(), () -> book.many(0));
            due("easements", model.easements, () -> book.many(2));
        }
        due("words", model.words, () -> book.many(3));
        due("synced words", model.synced, () -> book.many(4));
    }

    private void ask() {
        int day = below(4) == 0 ? 30000 : below(days * (1 + calls / 16));
        int entry = below(2) == 0 ? 600 : below(model.deeds.size() + 2);
        GridModel.World world = model.world(day, entry);
        String time = " as of " + day + ", " + entry;
        int x = below(GridModel.SIZE + 1);
        int y = below(GridModel.SIZE + 1);
        due("lotAt " + x + " " + y + time, lotAt(world, x, y), () -> book.lotAt(x * UNIT, y * UNIT, day, entry));
        int lot = lotOf(world);
        boolean there = world.lots.contains(lot);
        boolean[] cells = model.cells.get(lot);
        due("area2 " + lot + time, there ? 2 * UNIT * UNIT * GridModel.area(cells) : -1,
                () -> book.area2(lot, day, entry));
        int person = below(3);
        due("share " + lot + " " + person + time, there ? world.shares[lot][person] : -1,
                () -> book.share(lot, person, day, entry));
        int i = below(4);
        due("next " + lot + " " + i + time, there ? neighbour(world, lot, i) : -1,
                () -> book.next(lot, i, day, entry));
        due("burden " + lot + " " + i + time, there ? ith(world.burdens.get(lot), i) : -1,
                () -> book.burden(lot, i, day, entry));
        relatives(lot, below(2));
        List<int[]> corners = GridModel.corners(cells);
        due("corners " + lot, corners.size(), () -> book.corners(lot));
        int k = below(corners.size());
        due("corner " + lot + " " + k, corners.get(k)[0] * UNIT * 32768 + corners.get(k)[1] * UNIT,
                () -> book.corner(lot, k));
    }

    private int lotAt(GridModel.World world, int x, int y) {
        for (int lot : world.lots) {
            if (GridModel.holds(model.cells.get(lot), x, y)) {
                return lot;
            }
        }
        return 0;
    }

    private int neighbour(GridModel.World world, int lot, int i) {
        int before = 0;
        for (int other : world.lots) {
            if (other != lot && GridModel.beside(model.cells.get(lot), model.cells.get(other))) {
                if (before == i) {
                    return other;
                }
                before++;
            }
        }
        return 0;
    }

    private static int ith(Set<Integer> numbers, int i) {
        return i < numbers.size() ? List.copyOf(new TreeSet<>(numbers)).get(i) : 0;
    }

    private void relatives(int lot, int i) {
        int parent = 0;
        int child = 0;
        for (GridModel.Deed deed : model.deeds) {
            int born = deed.kind == 1 ? 2 : deed.kind == 2 ? 1 : 0;
            if (born > 0 && lot >= deed.born && lot < deed.born + born) {
                parent = ith(deed.names, i);
            }
            if (born > 0 && deed.names.contains(lot)) {
                child = i < born ? deed.born + i : 0;
            }
        }
        int firstParent = parent;
        int firstChild = child;
        due("parent " + lot + " " + i, firstParent, () -> book.parent(lot, i));
        due("child " + lot + " " + i, firstChild, () -> book.child(lot, i));
    }
}
