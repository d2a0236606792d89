import java.math.BigDecimal;
import java.math.RoundingMode;
import java.util.ArrayList;
import java.util.List;
import java.util.Map;
import java.util.TreeMap;

/**
 * The document once more, written without regard to rows and room: lists, maps, copies and exact decimals.
 * ModelTest compares the class with it.
 */
final class Model {
    static final int NO_SUCH_AXIS = -1000001;
    static final int NO_SUCH_GLYPH = -1000002;
    static final int NO_SUCH_TUPLE = -1000003;
    static final int NO_SUCH_POINT = -1000004;
    static final int BAD_VALUE = -1000005;
    static final int FULL = -1000006;
    static final int NOT_POSSIBLE = -1000007;
    static final int NONE = -1000008;
    static final long NO_VALUE = Long.MIN_VALUE;

    private static final class Axis {
        int least;
        int standard;
        int greatest;
        int coordinate;
        boolean pinned;
        final TreeMap<Integer, Integer> map = new TreeMap<>(Map.of(-16384, -16384, 0, 0, 16384, 16384));
    }

    private record Region(int start, int peak, int end) {
    }

    private record Shift(int x, int y) {
        int in(boolean vertical) {
            return vertical ? y : x;
        }
    }

    private record Part(int x, int y, boolean starts, int child) {
        int in(boolean vertical) {
            return vertical ? y : x;
        }
    }

    private static final class Tuple {
        final TreeMap<Integer, Region> regions = new TreeMap<>();
        final TreeMap<Integer, Shift> given = new TreeMap<>();

        Tuple copy() {
            Tuple result = new Tuple();
            result.regions.putAll(regions);
            result.given.putAll(given);
            return result;
        }

        Region region(int axis) {
            return regions.getOrDefault(axis, new Region(0, 0, 0));
        }
    }

    private static final class Glyph {
        boolean composite;
        int advance;
        List<Part> parts = new ArrayList<>();
        List<Tuple> tuples = new ArrayList<>();

        Glyph copy() {
            Glyph result = new Glyph();
            result.composite = composite;
            result.advance = advance;
            result.parts.addAll(parts);
            for (Tuple tuple : tuples) {
                result.tuples.add(tuple.copy());
            }
            return result;
        }
    }

    private record Remembered(int number, Glyph glyph) {
    }

    private record Dot(long x, long y, int contour) {
    }

    private final List<Axis> axes = new ArrayList<>();
    private final List<Glyph> glyphs = new ArrayList<>();
    private final List<Remembered> remembered = new ArrayList<>();
    private final List<int[]> instances = new ArrayList<>();
    private String text = "";

    private static long rounded(long dividend, long divisor) {
        RoundingMode mode = dividend < 0 ? RoundingMode.HALF_DOWN : RoundingMode.HALF_UP;
        return new BigDecimal(dividend).divide(new BigDecimal(divisor), 0, mode).longValueExact();
    }

    private static boolean out(int value, int least, int greatest) {
        return value < least || value > greatest;
    }

    private boolean noAxis(int axis) {
        return out(axis, 0, axes.size() - 1);
    }

    private boolean noGlyph(int glyph) {
        return out(glyph, 0, glyphs.size() - 1);
    }

    int addAxis(int least, int standard, int greatest) {
        if (out(least, -100000, 100000) || out(standard, least, 100000) || out(greatest, standard, 100000)
                || greatest <= least) {
            return BAD_VALUE;
        }
        if (axes.size() == 4) {
            return FULL;
        }
        Axis axis = new Axis();
        axis.least = least;
        axis.standard = standard;
        axis.greatest = greatest;
        axes.add(axis);
        return axes.size() - 1;
    }

    int addMapPair(int axis, int from, int to) {
        if (noAxis(axis)) {
            return NO_SUCH_AXIS;
        }
        TreeMap<Integer, Integer> map = axes.get(axis).map;
        if (out(from, -16383, 16383) || from == 0 || out(to, -16384, 16384)
                || to < map.lowerEntry(from).getValue() || to > map.higherEntry(from).getValue()) {
            return BAD_VALUE;
        }
        if (map.size() == 8 && !map.containsKey(from)) {
            return FULL;
        }
        map.put(from, to);
        return map.size();
    }

    private int coordinate(int number, int value) {
        Axis axis = axes.get(number);
        long v = Math.max(axis.least, Math.min(axis.greatest, value));
        long n = 0;
        if (v < axis.standard) {
            n = -rounded((axis.standard - v) * 16384, axis.standard - axis.least);
        }
        if (v > axis.standard) {
            n = rounded((v - axis.standard) * 16384, axis.greatest - axis.standard);
        }
        if (n == 16384) {
            return 16384;
        }
        Map.Entry<Integer, Integer> low = axis.map.floorEntry((int) n);
        Map.Entry<Integer, Integer> high = axis.map.higherEntry((int) n);
        long rise = (n - low.getKey()) * (high.getValue() - low.getValue());
        return (int) (low.getValue() + rounded(rise, high.getKey() - low.getKey()));
    }

    int normalize(int axis, int value) {
        return noAxis(axis) ? NO_SUCH_AXIS : coordinate(axis, value);
    }

    int setUser(int axis, int value) {
        if (noAxis(axis)) {
            return NO_SUCH_AXIS;
        }
        if (axes.get(axis).pinned) {
            return NOT_POSSIBLE;
        }
        return axes.get(axis).coordinate = coordinate(axis, value);
    }

    int setCoordinate(int axis, int coordinate) {
        if (noAxis(axis)) {
            return NO_SUCH_AXIS;
        }
        if (out(coordinate, -16384, 16384)) {
            return BAD_VALUE;
        }
        if (axes.get(axis).pinned) {
            return NOT_POSSIBLE;
        }
        int previous = axes.get(axis).coordinate;
        axes.get(axis).coordinate = coordinate;
        return previous;
    }

    int pin(int axis, boolean pinned) {
        if (noAxis(axis)) {
            return NO_SUCH_AXIS;
        }
        boolean before = axes.get(axis).pinned;
        axes.get(axis).pinned = pinned;
        return before == pinned ? 0 : 1;
    }

    int axisValue(int axis, int what) {
        if (noAxis(axis)) {
            return NO_SUCH_AXIS;
        }
        if (out(what, 0, 5)) {
            return BAD_VALUE;
        }
        Axis a = axes.get(axis);
        return new int[] {a.coordinate, a.least, a.standard, a.greatest, a.map.size(), a.pinned ? 1 : 0}[what];
    }

    int addGlyph(boolean composite, int advance) {
        if (out(advance, 0, 4000)) {
            return BAD_VALUE;
        }
        if (glyphs.size() == 6) {
            return FULL;
        }
        Glyph glyph = new Glyph();
        glyph.composite = composite;
        glyph.advance = advance;
        glyphs.add(glyph);
        return glyphs.size() - 1;
    }

    private boolean isComponent(int number) {
        for (Glyph glyph : glyphs) {
            for (Part part : glyph.parts) {
                if (glyph.composite && part.child == number) {
                    return true;
                }
            }
        }
        return false;
    }

    int addPoint(int glyph, int x, int y, boolean starts) {
        if (noGlyph(glyph)) {
            return NO_SUCH_GLYPH;
        }
        if (out(x, -4000, 4000) || out(y, -4000, 4000)) {
            return BAD_VALUE;
        }
        Glyph g = glyphs.get(glyph);
        if (g.composite || isComponent(glyph)) {
            return NOT_POSSIBLE;
        }
        if (g.parts.size() == 24) {
            return FULL;
        }
        g.parts.add(new Part(x, y, starts || g.parts.isEmpty(), -1));
        return g.parts.size() - 1;
    }

    int addComponent(int glyph, int child, int x, int y) {
        if (noGlyph(glyph) || child >= glyph || child < 0) {
            return NO_SUCH_GLYPH;
        }
        if (out(x, -4000, 4000) || out(y, -4000, 4000)) {
            return BAD_VALUE;
        }
        Glyph g = glyphs.get(glyph);
        if (!g.composite || isComponent(glyph)) {
            return NOT_POSSIBLE;
        }
        if (g.parts.size() == 4 || dots(glyph, present()).size() + dots(child, present()).size() > 96) {
            return FULL;
        }
        g.parts.add(new Part(x, y, false, child));
        return g.parts.size() - 1;
    }

    private static int contours(List<Dot> dots) {
        return dots.isEmpty() ? 0 : dots.get(dots.size() - 1).contour + 1;
    }

    int glyphValue(int glyph, int what) {
        if (noGlyph(glyph)) {
            return NO_SUCH_GLYPH;
        }
        if (out(what, 0, 5)) {
            return BAD_VALUE;
        }
        Glyph g = glyphs.get(glyph);
        List<Dot> dots = dots(glyph, present());
        return new int[] {g.composite ? 1 : 0, g.parts.size(), contours(dots), dots.size(), g.tuples.size(),
            g.advance}[what];
    }

    int addTuple(int glyph) {
        if (noGlyph(glyph)) {
            return NO_SUCH_GLYPH;
        }
        if (glyphs.get(glyph).tuples.size() == 5) {
            return FULL;
        }
        glyphs.get(glyph).tuples.add(new Tuple());
        return glyphs.get(glyph).tuples.size() - 1;
    }

    private int tupleError(int glyph, int tuple) {
        if (noGlyph(glyph)) {
            return NO_SUCH_GLYPH;
        }
        return out(tuple, 0, glyphs.get(glyph).tuples.size() - 1) ? NO_SUCH_TUPLE : 0;
    }

    private int pointError(int glyph, int tuple, int point) {
        int error = tupleError(glyph, tuple);
        if (error == 0 && out(point, -1, glyphs.get(glyph).parts.size() - 1)) {
            return NO_SUCH_POINT;
        }
        return error;
    }

    int setRegion(int glyph, int tuple, int axis, int start, int peak, int end) {
        int error = tupleError(glyph, tuple);
        if (error != 0) {
            return error;
        }
        if (noAxis(axis)) {
            return NO_SUCH_AXIS;
        }
        if (out(peak, -16384, 16384) || out(start, -16384, peak) || out(end, peak, 16384)) {
            return BAD_VALUE;
        }
        if (peak != 0 && start < 0 && end > 0) {
            return BAD_VALUE;
        }
        Tuple t = glyphs.get(glyph).tuples.get(tuple);
        Region region = new Region(start, peak, end);
        boolean same = t.region(axis).equals(region);
        t.regions.put(axis, region);
        return same ? 0 : 1;
    }

    int touch(int glyph, int tuple, int point, int x, int y) {
        int error = pointError(glyph, tuple, point);
        if (error != 0) {
            return error;
        }
        if (out(x, -2000, 2000) || out(y, -2000, 2000) || (point == -1 && y != 0)) {
            return BAD_VALUE;
        }
        return glyphs.get(glyph).tuples.get(tuple).given.put(point, new Shift(x, y)) == null ? 1 : 0;
    }

    int release(int glyph, int tuple, int point) {
        int error = pointError(glyph, tuple, point);
        if (error != 0) {
            return error;
        }
        return glyphs.get(glyph).tuples.get(tuple).given.remove(point) == null ? 0 : 1;
    }

    private static int firstOfContour(Glyph g, int point) {
        int at = point;
        while (!g.parts.get(at).starts) {
            at--;
        }
        return at;
    }

    private static int lastOfContour(Glyph g, int point) {
        int at = point;
        while (at + 1 < g.parts.size() && !g.parts.get(at + 1).starts) {
            at++;
        }
        return at;
    }

    private static int deltaOf(Glyph g, Tuple t, int point, boolean vertical) {
        if (t.given.containsKey(point)) {
            return t.given.get(point).in(vertical);
        }
        if (g.composite || point == -1) {
            return 0;
        }
        int first = firstOfContour(g, point);
        int last = lastOfContour(g, point);
        TreeMap<Integer, Shift> near = new TreeMap<>(t.given.subMap(first, true, last, true));
        if (near.isEmpty()) {
            return 0;
        }
        int a = near.lowerKey(point) == null ? near.lastKey() : near.lowerKey(point);
        int b = near.higherKey(point) == null ? near.firstKey() : near.higherKey(point);
        if (g.parts.get(a).in(vertical) == g.parts.get(b).in(vertical)) {
            return near.get(a).in(vertical) == near.get(b).in(vertical) ? near.get(a).in(vertical) : 0;
        }
        int low = g.parts.get(a).in(vertical) < g.parts.get(b).in(vertical) ? a : b;
        int high = low == a ? b : a;
        long c = g.parts.get(point).in(vertical);
        long cLow = g.parts.get(low).in(vertical);
        long cHigh = g.parts.get(high).in(vertical);
        if (c <= cLow) {
            return near.get(low).in(vertical);
        }
        if (c >= cHigh) {
            return near.get(high).in(vertical);
        }
        long change = near.get(high).in(vertical) - near.get(low).in(vertical);
        return (int) (near.get(low).in(vertical) + rounded((c - cLow) * change, cHigh - cLow));
    }

    int delta(int glyph, int tuple, int point, boolean vertical) {
        int error = pointError(glyph, tuple, point);
        if (error != 0) {
            return error;
        }
        return deltaOf(glyphs.get(glyph), glyphs.get(glyph).tuples.get(tuple), point, vertical);
    }

    int touchedCount(int glyph, int tuple) {
        int error = tupleError(glyph, tuple);
        return error != 0 ? error : glyphs.get(glyph).tuples.get(tuple).given.size();
    }

    private int[] present() {
        int[] result = new int[axes.size()];
        for (int axis = 0; axis < result.length; axis++) {
            result[axis] = axes.get(axis).coordinate;
        }
        return result;
    }

    private long scalarOf(Tuple t, int[] at) {
        long result = 1L << 28;
        for (int axis = 0; axis < at.length; axis++) {
            Region r = t.region(axis);
            long c = at[axis];
            if (r.peak == 0 || (c >= r.start && c <= r.end && c == r.peak)) {
                continue;
            }
            if (c < r.start || c > r.end) {
                result = 0;
            } else if (c < r.peak) {
                result = rounded(result * (c - r.start), r.peak - r.start);
            } else {
                result = rounded(result * (r.end - c), r.end - r.peak);
            }
        }
        return result;
    }

    int scalar(int glyph, int tuple) {
        int error = tupleError(glyph, tuple);
        return error != 0 ? error : (int) scalarOf(glyphs.get(glyph).tuples.get(tuple), present());
    }

    double share(int glyph, int tuple) {
        return tupleError(glyph, tuple) != 0 ? -1.0 : (double) scalar(glyph, tuple) / 268435456;
    }

    private static int baseOf(Glyph g, int point, boolean vertical) {
        if (point == -1) {
            return vertical ? 0 : g.advance;
        }
        return g.parts.get(point).in(vertical);
    }

    private long placeOf(Glyph g, int point, boolean vertical, int[] at) {
        return baseOf(g, point, vertical) + shiftOf(g, g.tuples, point, vertical, at);
    }

    private long shiftOf(Glyph g, List<Tuple> tuples, int point, boolean vertical, int[] at) {
        long sum = 0;
        for (Tuple t : tuples) {
            sum += scalarOf(t, at) * deltaOf(g, t, point, vertical);
        }
        return rounded(sum, 1L << 28);
    }

    long position(int glyph, int point, int what) {
        if (noGlyph(glyph) || out(point, -1, glyphs.get(glyph).parts.size() - 1) || out(what, 0, 3)) {
            return NO_VALUE;
        }
        Glyph g = glyphs.get(glyph);
        return what < 2 ? baseOf(g, point, what == 1) : placeOf(g, point, what == 3, present());
    }

    private List<Dot> dots(int glyph, int[] at) {
        List<Dot> result = new ArrayList<>();
        Glyph g = glyphs.get(glyph);
        for (int point = 0; point < g.parts.size(); point++) {
            long x = placeOf(g, point, false, at);
            long y = placeOf(g, point, true, at);
            int contours = contours(result);
            if (!g.composite) {
                result.add(new Dot(x, y, g.parts.get(point).starts ? contours : contours - 1));
                continue;
            }
            for (Dot dot : dots(g.parts.get(point).child, at)) {
                result.add(new Dot(x + dot.x, y + dot.y, contours + dot.contour));
            }
        }
        return result;
    }

    long outline(int glyph, int k, int what) {
        if (noGlyph(glyph) || out(what, 0, 2)) {
            return NO_VALUE;
        }
        List<Dot> dots = dots(glyph, present());
        if (out(k, 0, dots.size() - 1)) {
            return NO_VALUE;
        }
        Dot dot = dots.get(k);
        return new long[] {dot.x, dot.y, dot.contour}[what];
    }

    long box(int glyph, int what) {
        if (noGlyph(glyph) || out(what, 0, 3)) {
            return NO_VALUE;
        }
        List<Long> sorted = new ArrayList<>();
        for (Dot dot : dots(glyph, present())) {
            sorted.add(what < 2 ? dot.x : dot.y);
        }
        sorted.sort(null);
        if (sorted.isEmpty()) {
            return NO_VALUE;
        }
        return sorted.get(what % 2 == 0 ? 0 : sorted.size() - 1);
    }

    float middle(int glyph, boolean vertical) {
        if (box(glyph, 0) == NO_VALUE) {
            return 0.0f;
        }
        return (float) ((double) (box(glyph, vertical ? 2 : 0) + box(glyph, vertical ? 3 : 1)) / 2.0);
    }

    private static long areaOf(List<Dot> all, int contour) {
        List<Dot> dots = new ArrayList<>();
        for (Dot dot : all) {
            if (dot.contour == contour) {
                dots.add(dot);
            }
        }
        long sum = 0;
        for (int i = 0; i < dots.size(); i++) {
            Dot p = dots.get(i);
            Dot q = dots.get((i + 1) % dots.size());
            sum += p.x * q.y - q.x * p.y;
        }
        return sum;
    }

    long area(int glyph, int contour) {
        if (noGlyph(glyph)) {
            return NO_VALUE;
        }
        List<Dot> dots = dots(glyph, present());
        if (out(contour, -1, contours(dots) - 1)) {
            return NO_VALUE;
        }
        long sum = 0;
        for (int c = 0; c < contours(dots); c++) {
            sum += contour == -1 || contour == c ? areaOf(dots, c) : 0;
        }
        return sum;
    }

    int flips(int glyph) {
        if (noGlyph(glyph)) {
            return NO_SUCH_GLYPH;
        }
        List<Dot> now = dots(glyph, present());
        List<Dot> rest = dots(glyph, new int[axes.size()]);
        int result = 0;
        for (int c = 0; c < contours(now); c++) {
            result += Long.signum(areaOf(now, c)) == Long.signum(areaOf(rest, c)) ? 0 : 1;
        }
        return result;
    }

    int widest(int glyph, int axis) {
        if (noGlyph(glyph)) {
            return NO_SUCH_GLYPH;
        }
        if (noAxis(axis)) {
            return NO_SUCH_AXIS;
        }
        int[] at = present();
        TreeMap<Long, Integer> best = new TreeMap<>();
        for (int c = -16384; c <= 16384; c += 2048) {
            at[axis] = c;
            best.putIfAbsent(placeOf(glyphs.get(glyph), -1, false, at), c);
        }
        return best.lastEntry().getValue();
    }

    private void remember(int glyph) {
        remembered.add(new Remembered(glyph, glyphs.get(glyph).copy()));
        if (remembered.size() > 6) {
            remembered.remove(0);
        }
    }

    private static void touchAll(Glyph g, Tuple t) {
        TreeMap<Integer, Shift> all = new TreeMap<>();
        for (int point = -1; point < g.parts.size(); point++) {
            all.put(point, new Shift(deltaOf(g, t, point, false), deltaOf(g, t, point, true)));
        }
        t.given.putAll(all);
    }

    private boolean sameRegion(Tuple a, Tuple b) {
        for (int axis = 0; axis < 4; axis++) {
            if (!a.region(axis).equals(b.region(axis))) {
                return false;
            }
        }
        return true;
    }

    int merge(int glyph) {
        if (noGlyph(glyph)) {
            return NO_SUCH_GLYPH;
        }
        remember(glyph);
        Glyph g = glyphs.get(glyph);
        List<Tuple> kept = new ArrayList<>();
        for (Tuple later : g.tuples) {
            Tuple earlier = null;
            for (Tuple t : kept) {
                if (sameRegion(t, later)) {
                    earlier = t;
                }
            }
            if (earlier == null) {
                kept.add(later);
                continue;
            }
            touchAll(g, earlier);
            touchAll(g, later);
            for (Map.Entry<Integer, Shift> entry : later.given.entrySet()) {
                Shift sum = earlier.given.get(entry.getKey());
                earlier.given.put(entry.getKey(),
                        new Shift(sum.x + entry.getValue().x, sum.y + entry.getValue().y));
            }
        }
        int removed = g.tuples.size() - kept.size();
        g.tuples = kept;
        return removed;
    }

    private static boolean sameDeltas(Glyph g, Tuple a, Tuple b) {
        for (int point = -1; point < g.parts.size(); point++) {
            if (deltaOf(g, a, point, false) != deltaOf(g, b, point, false)
                    || deltaOf(g, a, point, true) != deltaOf(g, b, point, true)) {
                return false;
            }
        }
        return true;
    }

    int compact(int glyph, int tuple) {
        int error = tupleError(glyph, tuple);
        if (error != 0) {
            return error;
        }
        remember(glyph);
        Glyph g = glyphs.get(glyph);
        Tuple t = g.tuples.get(tuple);
        int before = t.given.size();
        for (int point = 0; point < g.parts.size(); point++) {
            Shift shift = t.given.get(point);
            if (shift == null) {
                continue;
            }
            if (g.composite) {
                t.given.remove(point, new Shift(0, 0));
            } else {
                Tuple without = t.copy();
                without.given.remove(point);
                if (sameDeltas(g, t, without)) {
                    t.given.remove(point);
                }
            }
        }
        t.given.remove(-1, new Shift(0, 0));
        return before - t.given.size();
    }

    private boolean isFolded(Tuple t) {
        for (int axis = 0; axis < axes.size(); axis++) {
            if (t.region(axis).peak != 0 && !axes.get(axis).pinned) {
                return false;
            }
        }
        return true;
    }

    int fold(int glyph) {
        if (noGlyph(glyph)) {
            return NO_SUCH_GLYPH;
        }
        remember(glyph);
        Glyph before = glyphs.get(glyph).copy();
        List<Tuple> folded = new ArrayList<>();
        List<Tuple> kept = new ArrayList<>();
        for (Tuple t : before.tuples) {
            (isFolded(t) ? folded : kept).add(t);
        }
        if (folded.isEmpty()) {
            return 0;
        }
        Glyph after = new Glyph();
        after.composite = before.composite;
        after.advance = before.advance + (int) shiftOf(before, folded, -1, false, present());
        for (int point = 0; point < before.parts.size(); point++) {
            Part part = before.parts.get(point);
            after.parts.add(new Part(part.x + (int) shiftOf(before, folded, point, false, present()),
                    part.y + (int) shiftOf(before, folded, point, true, present()), part.starts, part.child));
        }
        for (Tuple t : kept) {
            if (!before.composite) {
                touchAll(before, t);
            }
            after.tuples.add(t);
        }
        glyphs.set(glyph, after);
        return folded.size();
    }

    int prune(int glyph) {
        if (noGlyph(glyph)) {
            return NO_SUCH_GLYPH;
        }
        remember(glyph);
        Glyph g = glyphs.get(glyph);
        int before = g.tuples.size();
        g.tuples.removeIf(t -> sameDeltas(g, t, new Tuple()));
        return before - g.tuples.size();
    }

    int undo() {
        if (remembered.isEmpty()) {
            return NONE;
        }
        Remembered latest = remembered.remove(remembered.size() - 1);
        glyphs.set(latest.number, latest.glyph);
        return latest.number;
    }

    int addInstance() {
        if (instances.size() == 6) {
            return FULL;
        }
        int[] kept = new int[4];
        System.arraycopy(present(), 0, kept, 0, axes.size());
        instances.add(kept);
        return instances.size() - 1;
    }

    int applyInstance(int instance) {
        if (out(instance, 0, instances.size() - 1)) {
            return BAD_VALUE;
        }
        int changed = 0;
        for (int axis = 0; axis < axes.size(); axis++) {
            Axis a = axes.get(axis);
            int wanted = instances.get(instance)[axis];
            changed += a.pinned || a.coordinate == wanted ? 0 : 1;
            a.coordinate = a.pinned ? a.coordinate : wanted;
        }
        return changed;
    }

    int nearestInstance() {
        TreeMap<Integer, Integer> byDistance = new TreeMap<>();
        for (int instance = 0; instance < instances.size(); instance++) {
            int distance = 0;
            for (int axis = 0; axis < axes.size(); axis++) {
                distance += Math.abs(instances.get(instance)[axis] - axes.get(axis).coordinate);
            }
            byDistance.putIfAbsent(distance, instance);
        }
        return byDistance.isEmpty() ? NONE : byDistance.firstEntry().getValue();
    }

    int type(char character) {
        if (text.length() == 60) {
            return FULL;
        }
        text = text + character;
        return text.length();
    }

    int clearText() {
        int length = text.length();
        text = "";
        return length;
    }

    /** What may stand next, as states of an automaton: a letter, a minus or digit, a digit, a digit or the end. */
    int readLocation() {
        TreeMap<Integer, Integer> read = new TreeMap<>();
        int axis = -1;
        int sign = 1;
        int value = 0;
        int digits = -2;
        for (int at = 0; at < text.length(); at++) {
            char c = text.charAt(at);
            boolean digit = c >= '0' && c <= '9';
            if (digits == -2) {
                axis = c - 'a';
                if (noAxis(axis) || axes.get(axis).pinned || read.containsKey(axis)) {
                    return -100 - at;
                }
                digits = -1;
                sign = 1;
                value = 0;
            } else if (digits == -1 && c == '-') {
                sign = -1;
                digits = 0;
            } else if (digit && digits < 6) {
                value = value * 10 + c - '0';
                digits = Math.max(digits, 0) + 1;
                read.put(axis, sign * value);
            } else if (c == ';' && digits > 0) {
                digits = -2;
            } else {
                return -100 - at;
            }
        }
        if (digits <= 0) {
            return -100 - text.length();
        }
        for (Map.Entry<Integer, Integer> entry : read.entrySet()) {
            setUser(entry.getKey(), entry.getValue());
        }
        return read.size();
    }

    int count(int what) {
        if (out(what, 0, 3)) {
            return BAD_VALUE;
        }
        return new int[] {axes.size(), glyphs.size(), instances.size(), remembered.size()}[what];
    }
}
