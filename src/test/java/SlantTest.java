import java.util.ArrayList;
import java.util.HashMap;
import java.util.HashSet;
import java.util.List;
import java.util.Map;
import java.util.Random;
import java.util.Set;

/**
 * Rings and chains with slanted sides on a small grid, where much touches, by fixed seeds. What is
 * due is worked out in another way than the program's: by the place along each side at which
 * sides meet, by a ray that no corner can lie on, and by a net of the lots' sides in pieces.
 */
final class SlantTest {
    private static final int RUNS = 3000;
    /** A ray goes so far to the right for each step up that it passes no other grid point. */
    private static final long FAR = 1000;

    private final Random random;
    private final int run;
    private final int size;
    private final LandBook book = new LandBook();
    private final List<int[][]> rings = new ArrayList<>();
    private final Set<Integer> lots = new HashSet<>();
    private static int opened;
    private static int splits;
    private static int merges;
    private static int refusedSplits;
    private static int refusedMerges;

    private SlantTest(int run) {
        this.run = run;
        random = new Random(run);
        size = 4 + random.nextInt(6);
        rings.add(null);
    }

    public static void main(String[] args) {
        for (int run = 0; run < RUNS && Check.allRight(); run++) {
            SlantTest test = new SlantTest(run);
            if (test.opens()) {
                opened++;
                for (int step = 0; step < 24 && Check.allRight(); step++) {
                    if (test.random.nextInt(3) > 0) {
                        test.splits();
                    } else {
                        test.merges();
                    }
                }
                test.places();
            }
        }
        Check.that("enough of all: " + opened + " districts, " + splits + " and " + refusedSplits + " splits, "
                + merges + " and " + refusedMerges + " merges",
                opened > 500 && splits > 500 && refusedSplits > 500 && merges > 100 && refusedMerges > 100);
        Check.end();
    }

    private String told(String what, int[][] points) {
        StringBuilder text = new StringBuilder("run " + run + ", " + what);
        for (int[] point : points) {
            text.append(' ').append(point[0]).append(',').append(point[1]);
        }
        return text.toString();
    }

    private int[] anyPoint() {
        return new int[] {random.nextInt(size + 1), random.nextInt(size + 1)};
    }

    private void put(int[][] points) {
        for (int[] point : points) {
            book.point(point[0], point[1]);
        }
    }

    private boolean opens() {
        int[][] row = new int[3 + random.nextInt(4)][];
        for (int i = 0; i < row.length; i++) {
            row[i] = anyPoint();
        }
        put(row);
        boolean due = isSimple(row, true);
        Check.due(told("open", row), due, book::open);
        if (due) {
            begin(1, Math.abs(area(row)));
        }
        return due;
    }

    /** Reads a new lot's ring, and looks whether it is as rings are KEPT. */
    private void begin(int lot, long area) {
        int[][] ring = new int[book.corners(lot)][];
        for (int k = 0; k < ring.length; k++) {
            int corner = book.corner(lot, k);
            ring[k] = new int[] {corner / 32768, corner % 32768};
        }
        Check.that(told("a ring", ring), isSimple(ring, true));
        Check.due(told("area", ring), area, () -> area(ring));
        Check.due(told("area2", ring), area, () -> book.area2(lot, 0, 600));
        for (int k = 0; k < ring.length; k++) {
            int[] next = ring[(k + 1) % ring.length];
            int[] before = ring[(k + ring.length - 1) % ring.length];
            Check.that(told("no straight corner", ring), cross(before, ring[k], next) != 0);
            Check.that(told("least first", ring), ring[0][0] < ring[k][0]
                    || ring[0][0] == ring[k][0] && ring[0][1] <= ring[k][1]);
        }
        rings.add(ring);
        lots.add(lot);
    }

    private int anyLot() {
        List<Integer> all = new ArrayList<>(lots);
        return all.get(random.nextInt(all.size()));
    }

    private void splits() {
        int lot = anyLot();
        int[][] ring = rings.get(lot);
        List<int[]> edge = new ArrayList<>();
        for (int x = 0; x <= size; x++) {
            for (int y = 0; y <= size; y++) {
                int[] point = {x, y};
                if (isOn(ring, 2 * x, 2 * y)) {
                    edge.add(point);
                }
            }
        }
        int[][] chain = new int[2 + random.nextInt(3)][];
        for (int i = 0; i < chain.length; i++) {
            boolean end = i == 0 || i == chain.length - 1;
            chain[i] = end && random.nextInt(20) > 0 ? edge.get(random.nextInt(edge.size())) : anyPoint();
        }
        put(chain);
        int[][] lesser = part(ring, chain, false);
        int born = rings.size();
        String what = told("split " + lot + told(" of", ring) + " by", chain);
        Check.due(what, lesser == null ? -3 : born, () -> book.split(lot, 0));
        if (lesser == null) {
            refusedSplits++;
            return;
        }
        splits++;
        lots.remove(lot);
        begin(born, area(lesser));
        begin(born + 1, area(part(ring, chain, true)));
        Check.due(what, area(ring), () -> area(rings.get(born)) + area(rings.get(born + 1)));
    }

    private void merges() {
        int a = anyLot();
        int b = anyLot();
        boolean due = a != b && oneLine(rings.get(a), rings.get(b));
        int born = rings.size();
        String what = told("merge " + a, rings.get(a)) + told(" and " + b, rings.get(b));
        Check.due(what, due ? born : -3, () -> book.merge(a, b, 0));
        if (!due) {
            refusedMerges++;
            return;
        }
        merges++;
        lots.remove(a);
        lots.remove(b);
        begin(born, area(rings.get(a)) + area(rings.get(b)));
        for (int x = 0; x <= 2 * size; x++) {
            for (int y = 0; y <= 2 * size; y++) {
                boolean in = holds(rings.get(a), x, y) || holds(rings.get(b), x, y);
                Check.that(what + " at " + x + " " + y, holds(rings.get(born), x, y) == in);
            }
        }
    }

    private void places() {
        for (int x = 0; x <= size + 1; x++) {
            for (int y = 0; y <= size + 1; y++) {
                int least = 0;
                for (int lot = rings.size() - 1; lot > 0; lot--) {
                    least = lots.contains(lot) && holds(rings.get(lot), 2 * x, 2 * y) ? lot : least;
                }
                int due = least;
                int[] at = {x, y};
                Check.due("run " + run + ", lotAt " + x + " " + y, due, () -> book.lotAt(at[0], at[1], 0, 600));
            }
        }
        for (int lot : lots) {
            int i = 0;
            for (int other = 1; other <= rings.size(); other++) {
                boolean beside = other == rings.size()
                        || other != lot && lots.contains(other) && lineBetween(rings.get(lot), rings.get(other));
                if (beside) {
                    int due = other == rings.size() ? 0 : other;
                    int it = i;
                    Check.due("run " + run + ", next " + lot + " " + it, due, () -> book.next(lot, it, 0, 600));
                    i++;
                }
            }
        }
    }

    // ---- the other way ----

    private static long cross(int[] a, int[] b, int[] c) {
        return (long) (b[0] - a[0]) * (c[1] - b[1]) - (long) (b[1] - a[1]) * (c[0] - b[0]);
    }

    private static long area(int[][] ring) {
        long sum = 0;
        for (int i = 1; i + 1 < ring.length; i++) {
            sum += cross(ring[0], ring[i], ring[i + 1]);
        }
        return sum;
    }

    private static int[][] side(int[][] line, int i) {
        return new int[][] {line[i], line[(i + 1) % line.length]};
    }

    /** 0 for nothing in common, 1 for a point, 2 for a line. */
    private static int inCommon(int[][] s, int[][] t) {
        long sx = s[1][0] - s[0][0];
        long sy = s[1][1] - s[0][1];
        long tx = t[1][0] - t[0][0];
        long ty = t[1][1] - t[0][1];
        long ox = t[0][0] - s[0][0];
        long oy = t[0][1] - s[0][1];
        long scale = sx * ty - sy * tx;
        if (scale != 0) {
            return isShare(ox * ty - oy * tx, scale) && isShare(ox * sy - oy * sx, scale) ? 1 : 0;
        }
        if (ox * sy - oy * sx != 0) {
            return 0;
        }
        long from = ox * sx + oy * sy;
        long to = from + tx * sx + ty * sy;
        long low = Math.max(0, Math.min(from, to));
        long high = Math.min(sx * sx + sy * sy, Math.max(from, to));
        return low < high ? 2 : low == high ? 1 : 0;
    }

    private static boolean isShare(long part, long whole) {
        return whole > 0 ? part >= 0 && part <= whole : part <= 0 && part >= whole;
    }

    private static boolean isSimple(int[][] line, boolean closed) {
        int sides = closed ? line.length : line.length - 1;
        for (int i = 0; i < sides; i++) {
            int[][] side = side(line, i);
            if (side[0][0] == side[1][0] && side[0][1] == side[1][1]) {
                return false;
            }
            for (int j = 0; j < i; j++) {
                boolean neighbours = i - j == 1 || closed && i - j == sides - 1;
                if (inCommon(side, side(line, j)) > (neighbours ? 1 : 0)) {
                    return false;
                }
            }
        }
        return true;
    }

    private static int[][] doubled(int[][] line) {
        int[][] twice = new int[line.length][];
        for (int i = 0; i < line.length; i++) {
            twice[i] = new int[] {2 * line[i][0], 2 * line[i][1]};
        }
        return twice;
    }

    private static boolean isOn(int[][] ring, int x2, int y2) {
        int[][] twice = doubled(ring);
        for (int i = 0; i < twice.length; i++) {
            if (lies(new int[] {x2, y2}, side(twice, i))) {
                return true;
            }
        }
        return false;
    }

    private static boolean holds(int[][] ring, int x2, int y2) {
        return isOn(ring, x2, y2) || isWithin(ring, x2, y2);
    }

    private static boolean isWithin(int[][] ring, int x2, int y2) {
        if (isOn(ring, x2, y2)) {
            return false;
        }
        int[][] twice = doubled(ring);
        boolean in = false;
        for (int i = 0; i < twice.length; i++) {
            int[][] side = side(twice, i);
            long ax = side[0][0] - x2;
            long ay = side[0][1] - y2;
            long dx = side[1][0] - side[0][0];
            long dy = side[1][1] - side[0][1];
            long scale = FAR * dy - dx;
            if (scale != 0 && isShare(ax - FAR * ay, scale) && (ax * dy - ay * dx) * scale > 0) {
                in = !in;
            }
        }
        return in;
    }

    /** The lesser lot's ring, or the other one's, with points at which it goes straight on: null for -3. */
    private static int[][] part(int[][] ring, int[][] chain, boolean otherWay) {
        int end = chain.length - 1;
        int[] first = chain[0];
        int[] last = chain[end];
        boolean fits = isOn(ring, 2 * first[0], 2 * first[1]) && isOn(ring, 2 * last[0], 2 * last[1])
                && (first[0] != last[0] || first[1] != last[1]) && isSimple(chain, false);
        for (int i = 0; i < end && fits; i++) {
            int[] p = chain[i];
            int[] q = chain[i + 1];
            fits = (i == 0 || isWithin(ring, 2 * p[0], 2 * p[1])) && isWithin(ring, p[0] + q[0], p[1] + q[1])
                    && touches(ring, side(chain, i)) == (i == 0 ? 1 : 0) + (i == end - 1 ? 1 : 0);
        }
        if (!fits) {
            return null;
        }
        int[][] way = chain.clone();
        for (int i = 0; i <= end && otherWay; i++) {
            way[i] = chain[end - i];
        }
        return along(ring, way);
    }

    /** At how many points a side meets the ring; 99 for a line. */
    private static int touches(int[][] ring, int[][] side) {
        int count = 0;
        for (int i = 0; i < ring.length; i++) {
            int meeting = inCommon(side(ring, i), side);
            if (meeting == 2) {
                return 99;
            }
            // a corner counts for the side that begins there, not for the one that ends there
            count += meeting == 1 && !lies(ring[(i + 1) % ring.length], side) ? 1 : 0;
        }
        return count;
    }

    private static boolean lies(int[] point, int[][] side) {
        long along = (long) (point[0] - side[0][0]) * (point[0] - side[1][0])
                + (long) (point[1] - side[0][1]) * (point[1] - side[1][1]);
        return cross(side[0], point, side[1]) == 0 && along <= 0;
    }

    /** From the way's begin round the ring to its end, by all grid points of the ring, and back. */
    private static int[][] along(int[][] ring, int[][] way) {
        List<int[]> steps = new ArrayList<>();
        for (int i = 0; i < ring.length; i++) {
            int[][] side = side(ring, i);
            int dx = side[1][0] - side[0][0];
            int dy = side[1][1] - side[0][1];
            int parts = Math.abs(gcd(dx, dy));
            for (int k = 0; k < parts; k++) {
                steps.add(new int[] {side[0][0] + dx / parts * k, side[0][1] + dy / parts * k});
            }
        }
        int at = 0;
        while (steps.get(at)[0] != way[0][0] || steps.get(at)[1] != way[0][1]) {
            at++;
        }
        List<int[]> part = new ArrayList<>();
        int[] end = way[way.length - 1];
        while (steps.get(at)[0] != end[0] || steps.get(at)[1] != end[1]) {
            part.add(steps.get(at));
            at = (at + 1) % steps.size();
        }
        for (int i = way.length - 1; i > 0; i--) {
            part.add(way[i]);
        }
        return part.toArray(new int[0][]);
    }

    private static int gcd(int a, int b) {
        return b == 0 ? a : gcd(b, a % b);
    }

    private static boolean lineBetween(int[][] a, int[][] b) {
        return !commonPieces(a, b).isEmpty();
    }

    /** All sides of a ring in pieces between neighbouring grid points, each told without direction. */
    private static Set<String> pieces(int[][] ring) {
        Set<String> pieces = new HashSet<>();
        for (int i = 0; i < ring.length; i++) {
            int[][] side = side(ring, i);
            int dx = side[1][0] - side[0][0];
            int dy = side[1][1] - side[0][1];
            int parts = Math.abs(gcd(dx, dy));
            for (int k = 0; k < parts; k++) {
                String a = (side[0][0] + dx / parts * k) + "," + (side[0][1] + dy / parts * k);
                String b = (side[0][0] + dx / parts * (k + 1)) + "," + (side[0][1] + dy / parts * (k + 1));
                pieces.add(a.compareTo(b) < 0 ? a + " " + b : b + " " + a);
            }
        }
        return pieces;
    }

    private static Set<String> commonPieces(int[][] a, int[][] b) {
        Set<String> pieces = pieces(a);
        pieces.retainAll(pieces(b));
        return pieces;
    }

    private static Set<String> points(Set<String> pieces) {
        Set<String> points = new HashSet<>();
        for (String piece : pieces) {
            points.addAll(List.of(piece.split(" ")));
        }
        return points;
    }

    /** Corners lie on grid points, so lots can meet only in these and in whole pieces between them. */
    private static boolean oneLine(int[][] a, int[][] b) {
        Set<String> pieces = commonPieces(a, b);
        Set<String> common = points(pieces(a));
        common.retainAll(points(pieces(b)));
        if (pieces.isEmpty() || !common.equals(points(pieces)) || common.size() != pieces.size() + 1) {
            return false;
        }
        Map<String, String> group = new HashMap<>();
        for (String point : common) {
            group.put(point, point);
        }
        for (String piece : pieces) {
            String[] ends = piece.split(" ");
            String from = group.get(ends[0]);
            String to = group.get(ends[1]);
            group.replaceAll((point, it) -> it.equals(from) ? to : it);
        }
        return new HashSet<>(group.values()).size() == 1;
    }
}
