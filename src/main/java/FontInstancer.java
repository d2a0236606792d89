/** An instancer for variable fonts in fixed-point arithmetic; ../shared/DOC.md says what it promises. */
public final class FontInstancer {
    public static final int NO_SUCH_AXIS = -1000001;
    public static final int NO_SUCH_GLYPH = -1000002;
    public static final int NO_SUCH_TUPLE = -1000003;
    public static final int NO_SUCH_POINT = -1000004;
    public static final int BAD_VALUE = -1000005;
    public static final int FULL = -1000006;
    public static final int NOT_POSSIBLE = -1000007;
    public static final int NONE = -1000008;
    public static final long NO_VALUE = Long.MIN_VALUE;

    private static final int MOST_AXES = 4;
    private static final int MOST_PAIRS = 8;
    private static final int MOST_GLYPHS = 6;
    private static final int MOST_POINTS = 24;
    private static final int MOST_COMPONENTS = 4;
    private static final int MOST_TUPLES = 5;
    private static final int MOST_OUTLINE_POINTS = 96;
    private static final int MOST_INSTANCES = 6;
    private static final int MOST_UNDOS = 6;
    private static final int MOST_CHARACTERS = 60;
    private static final int MOST_DIGITS = 6;

    private static final int MOST_USER_VALUE = 100000;
    private static final int MOST_ADVANCE = 4000;
    private static final int MOST_POSITION = 4000;
    private static final int MOST_DELTA = 2000;
    /** The greatest coordinate of an axis. */
    private static final int UNIT = 16384;
    /** The scalar that stands for the factor 1. */
    private static final int WHOLE = 268435456;
    private static final int WIDEST_STEP = 2048;
    private static final int FAULT_AT_START = -100;

    /** A glyph's advance has the place 0, its point or component p the place p + 1: one loop serves all. */
    private static final int ADVANCE = 0;
    private static final int PLACES = MOST_POINTS + 1;
    /** A set of axes has the bit 1 << axis for each axis in it. */
    private static final int ALL_AXES = (1 << MOST_AXES) - 1;

    private final Axis[] axes = new Axis[MOST_AXES];
    private int axisCount;
    /** The present coordinates; 0 for axes that are not there yet, as instances and regions want it. */
    private final int[] location = new int[MOST_AXES];
    private final int[] zeroLocation = new int[MOST_AXES];
    private final int[] triedLocation = new int[MOST_AXES];

    private final Glyph[] glyphs = new Glyph[MOST_GLYPHS];
    private int glyphCount;
    private final Outline present = new Outline();
    private final Outline unvaried = new Outline();
    private final History history = new History();

    private final int[][] instances = new int[MOST_INSTANCES][MOST_AXES];
    private int instanceCount;
    private final LocationText text = new LocationText();

    public FontInstancer() {
        for (int axis = 0; axis < MOST_AXES; axis++) {
            axes[axis] = new Axis();
        }
        for (int glyph = 0; glyph < MOST_GLYPHS; glyph++) {
            glyphs[glyph] = new Glyph();
        }
    }

    // ---- axes

    public int addAxis(int least, int standard, int greatest) {
        if (!within(least, -MOST_USER_VALUE, MOST_USER_VALUE) || !within(standard, least, MOST_USER_VALUE)
                || !within(greatest, standard, MOST_USER_VALUE) || greatest == least) {
            return BAD_VALUE;
        }
        if (axisCount >= MOST_AXES) {
            return FULL;
        }
        axes[axisCount].begin(least, standard, greatest);
        axisCount++;
        return axisCount - 1;
    }

    public int addMapPair(int axis, int from, int to) {
        if (!hasAxis(axis)) {
            return NO_SUCH_AXIS;
        }
        Axis chosen = axes[axis];
        if (!within(from, 1 - UNIT, UNIT - 1) || from == 0 || !chosen.keepsOrder(from, to)) {
            return BAD_VALUE;
        }
        if (chosen.pairs >= MOST_PAIRS && !chosen.hasPair(from)) {
            return FULL;
        }
        chosen.putPair(from, to);
        return chosen.pairs;
    }

    public int normalize(int axis, int value) {
        return hasAxis(axis) ? axes[axis].coordinateFor(value) : NO_SUCH_AXIS;
    }

    public int setUser(int axis, int value) {
        if (!hasAxis(axis)) {
            return NO_SUCH_AXIS;
        }
        if (axes[axis].pinned) {
            return NOT_POSSIBLE;
        }
        location[axis] = axes[axis].coordinateFor(value);
        return location[axis];
    }

    public int setCoordinate(int axis, int coordinate) {
        if (!hasAxis(axis)) {
            return NO_SUCH_AXIS;
        }
        if (!within(coordinate, -UNIT, UNIT)) {
            return BAD_VALUE;
        }
        if (axes[axis].pinned) {
            return NOT_POSSIBLE;
        }
        int previous = location[axis];
        location[axis] = coordinate;
        return previous;
    }

    public int pin(int axis, boolean pinned) {
        if (!hasAxis(axis)) {
            return NO_SUCH_AXIS;
        }
        boolean changes = axes[axis].pinned != pinned;
        axes[axis].pinned = pinned;
        return changes ? 1 : 0;
    }

    public int axisValue(int axis, int what) {
        if (!hasAxis(axis)) {
            return NO_SUCH_AXIS;
        }
        Axis chosen = axes[axis];
        switch (what) {
            case 0: return location[axis];
            case 1: return chosen.least;
            case 2: return chosen.standard;
            case 3: return chosen.greatest;
            case 4: return chosen.pairs;
            case 5: return chosen.pinned ? 1 : 0;
            default: return BAD_VALUE;
        }
    }

    // ---- glyphs

    public int addGlyph(boolean composite, int advance) {
        if (!within(advance, 0, MOST_ADVANCE)) {
            return BAD_VALUE;
        }
        if (glyphCount >= MOST_GLYPHS) {
            return FULL;
        }
        glyphs[glyphCount].begin(composite, advance);
        glyphCount++;
        return glyphCount - 1;
    }

    public int addPoint(int glyph, int x, int y, boolean starts) {
        if (!hasGlyph(glyph)) {
            return NO_SUCH_GLYPH;
        }
        if (!isPosition(x, y)) {
            return BAD_VALUE;
        }
        if (glyphs[glyph].composite || isComponent(glyph)) {
            return NOT_POSSIBLE;
        }
        if (glyphs[glyph].size >= MOST_POINTS) {
            return FULL;
        }
        return glyphs[glyph].appendPoint(x, y, starts);
    }

    public int addComponent(int glyph, int child, int x, int y) {
        if (!hasGlyph(glyph) || child < 0 || child >= glyph) {
            return NO_SUCH_GLYPH;
        }
        if (!isPosition(x, y)) {
            return BAD_VALUE;
        }
        if (!glyphs[glyph].composite || isComponent(glyph)) {
            return NOT_POSSIBLE;
        }
        int points = drawnPresent(glyph).points;
        points += drawnPresent(child).points;
        if (glyphs[glyph].size >= MOST_COMPONENTS || points > MOST_OUTLINE_POINTS) {
            return FULL;
        }
        return glyphs[glyph].appendComponent(child, x, y);
    }

    public int glyphValue(int glyph, int what) {
        if (!hasGlyph(glyph)) {
            return NO_SUCH_GLYPH;
        }
        Glyph chosen = glyphs[glyph];
        switch (what) {
            case 0: return chosen.composite ? 1 : 0;
            case 1: return chosen.size;
            case 2: return drawnPresent(glyph).contours;
            case 3: return drawnPresent(glyph).points;
            case 4: return chosen.tupleCount;
            case 5: return chosen.x[ADVANCE];
            default: return BAD_VALUE;
        }
    }

    // ---- tuples

    public int addTuple(int glyph) {
        if (!hasGlyph(glyph)) {
            return NO_SUCH_GLYPH;
        }
        Glyph chosen = glyphs[glyph];
        if (chosen.tupleCount >= MOST_TUPLES) {
            return FULL;
        }
        chosen.tuples[chosen.tupleCount].begin();
        chosen.tupleCount++;
        return chosen.tupleCount - 1;
    }

    public int setRegion(int glyph, int tuple, int axis, int start, int peak, int end) {
        int error = tupleError(glyph, tuple);
        if (error != 0) {
            return error;
        }
        if (!hasAxis(axis)) {
            return NO_SUCH_AXIS;
        }
        if (!within(peak, -UNIT, UNIT) || !within(start, -UNIT, peak) || !within(end, peak, UNIT)
                || (peak != 0 && start < 0 && end > 0)) {
            return BAD_VALUE;
        }
        return glyphs[glyph].tuples[tuple].putRegion(axis, start, peak, end) ? 1 : 0;
    }

    public int touch(int glyph, int tuple, int point, int x, int y) {
        int error = pointError(glyph, tuple, point);
        if (error != 0) {
            return error;
        }
        int mostY = point + 1 == ADVANCE ? 0 : MOST_DELTA;
        if (!within(x, -MOST_DELTA, MOST_DELTA) || !within(y, -mostY, mostY)) {
            return BAD_VALUE;
        }
        Tuple chosen = glyphs[glyph].tuples[tuple];
        boolean touchedBefore = chosen.touches(point + 1);
        chosen.putDelta(point + 1, x, y);
        return touchedBefore ? 0 : 1;
    }

    public int release(int glyph, int tuple, int point) {
        int error = pointError(glyph, tuple, point);
        if (error != 0) {
            return error;
        }
        Tuple chosen = glyphs[glyph].tuples[tuple];
        boolean touchedBefore = chosen.touches(point + 1);
        chosen.dropTouch(point + 1);
        return touchedBefore ? 1 : 0;
    }

    public int delta(int glyph, int tuple, int point, boolean vertical) {
        int error = pointError(glyph, tuple, point);
        if (error != 0) {
            return error;
        }
        Glyph chosen = glyphs[glyph];
        return chosen.deltaAt(chosen.tuples[tuple], point + 1, vertical);
    }

    public int touchedCount(int glyph, int tuple) {
        int error = tupleError(glyph, tuple);
        return error != 0 ? error : Integer.bitCount(glyphs[glyph].tuples[tuple].touched);
    }

    public int scalar(int glyph, int tuple) {
        int error = tupleError(glyph, tuple);
        return error != 0 ? error : glyphs[glyph].tuples[tuple].scalarAt(location);
    }

    public double share(int glyph, int tuple) {
        if (tupleError(glyph, tuple) != 0) {
            return -1.0;
        }
        return (double) glyphs[glyph].tuples[tuple].scalarAt(location) / WHOLE;
    }

    // ---- instances

    public long position(int glyph, int point, int what) {
        if (!hasGlyph(glyph) || !hasPlace(glyph, point) || !within(what, 0, 3)) {
            return NO_VALUE;
        }
        Glyph chosen = glyphs[glyph];
        boolean vertical = what == 1 || what == 3;
        if (what < 2) {
            return vertical ? chosen.y[point + 1] : chosen.x[point + 1];
        }
        return chosen.placeAt(point + 1, vertical, location, ALL_AXES);
    }

    public long outline(int glyph, int k, int what) {
        if (!hasGlyph(glyph) || !within(what, 0, 2)) {
            return NO_VALUE;
        }
        Outline drawn = drawnPresent(glyph);
        if (!within(k, 0, drawn.points - 1)) {
            return NO_VALUE;
        }
        switch (what) {
            case 0: return drawn.x[k];
            case 1: return drawn.y[k];
            default: return drawn.contour[k];
        }
    }

    public long box(int glyph, int what) {
        if (!hasGlyph(glyph) || !within(what, 0, 3)) {
            return NO_VALUE;
        }
        Outline drawn = drawnPresent(glyph);
        if (drawn.points == 0) {
            return NO_VALUE;
        }
        boolean vertical = what >= 2;
        return what % 2 == 0 ? drawn.leastOf(vertical) : drawn.greatestOf(vertical);
    }

    public float middle(int glyph, boolean vertical) {
        if (!hasGlyph(glyph)) {
            return 0.0f;
        }
        Outline drawn = drawnPresent(glyph);
        if (drawn.points == 0) {
            return 0.0f;
        }
        return (float) ((double) (drawn.leastOf(vertical) + drawn.greatestOf(vertical)) / 2.0);
    }

    public long area(int glyph, int contour) {
        if (!hasGlyph(glyph)) {
            return NO_VALUE;
        }
        Outline drawn = drawnPresent(glyph);
        if (!within(contour, -1, drawn.contours - 1)) {
            return NO_VALUE;
        }
        return contour == -1 ? drawn.wholeArea() : drawn.contourArea(contour);
    }

    public int flips(int glyph) {
        if (!hasGlyph(glyph)) {
            return NO_SUCH_GLYPH;
        }
        Outline now = drawnPresent(glyph);
        unvaried.clear();
        draw(glyphs, glyph, zeroLocation, unvaried, 0, 0, 0);
        int flipped = 0;
        for (int contour = 0; contour < now.contours; contour++) {
            if (!haveSameSign(now.contourArea(contour), unvaried.contourArea(contour))) {
                flipped++;
            }
        }
        return flipped;
    }

    public int widest(int glyph, int axis) {
        if (!hasGlyph(glyph)) {
            return NO_SUCH_GLYPH;
        }
        if (!hasAxis(axis)) {
            return NO_SUCH_AXIS;
        }
        System.arraycopy(location, 0, triedLocation, 0, MOST_AXES);
        int best = -UNIT;
        long greatest = Long.MIN_VALUE;
        for (int coordinate = -UNIT; coordinate <= UNIT; coordinate += WIDEST_STEP) {
            triedLocation[axis] = coordinate;
            long advance = glyphs[glyph].placeAt(ADVANCE, false, triedLocation, ALL_AXES);
            if (advance > greatest) {
                greatest = advance;
                best = coordinate;
            }
        }
        return best;
    }

    // ---- operations

    public int merge(int glyph) {
        if (!hasGlyph(glyph)) {
            return NO_SUCH_GLYPH;
        }
        history.remember(glyph, glyphs[glyph]);
        return glyphs[glyph].mergeTuples();
    }

    public int compact(int glyph, int tuple) {
        int error = tupleError(glyph, tuple);
        if (error != 0) {
            return error;
        }
        history.remember(glyph, glyphs[glyph]);
        return glyphs[glyph].compactTuple(glyphs[glyph].tuples[tuple]);
    }

    public int fold(int glyph) {
        if (!hasGlyph(glyph)) {
            return NO_SUCH_GLYPH;
        }
        history.remember(glyph, glyphs[glyph]);
        return glyphs[glyph].foldTuples(pinnedAxes(), location);
    }

    public int prune(int glyph) {
        if (!hasGlyph(glyph)) {
            return NO_SUCH_GLYPH;
        }
        history.remember(glyph, glyphs[glyph]);
        return glyphs[glyph].pruneTuples();
    }

    public int undo() {
        if (history.size <= 0) {
            return NONE;
        }
        history.size--;
        int glyph = history.numbers[history.size];
        if (hasGlyph(glyph)) {
            glyphs[glyph].copyFrom(history.states[history.size]);
        }
        return glyph;
    }

    // ---- named instances and texts

    public int addInstance() {
        if (instanceCount >= MOST_INSTANCES) {
            return FULL;
        }
        System.arraycopy(location, 0, instances[instanceCount], 0, MOST_AXES);
        instanceCount++;
        return instanceCount - 1;
    }

    public int applyInstance(int instance) {
        if (!within(instance, 0, instanceCount - 1)) {
            return BAD_VALUE;
        }
        int changed = 0;
        for (int axis = 0; axis < axisCount; axis++) {
            int coordinate = instances[instance][axis];
            if (!axes[axis].pinned && location[axis] != coordinate) {
                location[axis] = coordinate;
                changed++;
            }
        }
        return changed;
    }

    public int nearestInstance() {
        int nearest = NONE;
        int leastDistance = Integer.MAX_VALUE;
        for (int instance = 0; instance < instanceCount; instance++) {
            int distance = 0;
            for (int axis = 0; axis < axisCount; axis++) {
                distance += Math.abs(instances[instance][axis] - location[axis]);
            }
            if (distance < leastDistance) {
                leastDistance = distance;
                nearest = instance;
            }
        }
        return nearest;
    }

    public int type(char character) {
        return text.append(character) ? text.length : FULL;
    }

    public int clearText() {
        int length = text.length;
        text.length = 0;
        return length;
    }

    public int readLocation() {
        int result = text.readItems(axisCount, pinnedAxes());
        if (result < 0) {
            return result;
        }
        for (int axis = 0; axis < axisCount; axis++) {
            if (hasBit(text.namedAxes, axis)) {
                location[axis] = axes[axis].coordinateFor(text.values[axis]);
            }
        }
        return result;
    }

    public int count(int what) {
        switch (what) {
            case 0: return axisCount;
            case 1: return glyphCount;
            case 2: return instanceCount;
            case 3: return history.size;
            default: return BAD_VALUE;
        }
    }

    // ---- checks

    private static boolean within(int value, int least, int greatest) {
        return value >= least && value <= greatest;
    }

    private static boolean isPosition(int x, int y) {
        return within(x, -MOST_POSITION, MOST_POSITION) && within(y, -MOST_POSITION, MOST_POSITION);
    }

    private static boolean hasBit(int bits, int index) {
        return (bits & (1 << index)) != 0;
    }

    private static boolean haveSameSign(long a, long b) {
        return (a > 0) == (b > 0) && (a < 0) == (b < 0);
    }

    private boolean hasAxis(int axis) {
        return axis >= 0 && axis < axisCount;
    }

    private boolean hasGlyph(int glyph) {
        return glyph >= 0 && glyph < glyphCount;
    }

    /** For a glyph that is there: whether it has this point or component; -1 asks for the advance. */
    private boolean hasPlace(int glyph, int point) {
        return point >= -1 && point < glyphs[glyph].size;
    }

    /** The error of the numbers of a glyph and a tuple, or 0. */
    private int tupleError(int glyph, int tuple) {
        if (!hasGlyph(glyph)) {
            return NO_SUCH_GLYPH;
        }
        return within(tuple, 0, glyphs[glyph].tupleCount - 1) ? 0 : NO_SUCH_TUPLE;
    }

    /** The error of the numbers of a glyph, a tuple and a point, or 0. */
    private int pointError(int glyph, int tuple, int point) {
        int error = tupleError(glyph, tuple);
        if (error != 0) {
            return error;
        }
        return hasPlace(glyph, point) ? 0 : NO_SUCH_POINT;
    }

    private boolean isComponent(int glyph) {
        for (int parent = glyph + 1; parent < glyphCount; parent++) {
            if (glyphs[parent].hasChild(glyph)) {
                return true;
            }
        }
        return false;
    }

    // ---- computing

    /** The quotient rounded to the nearest integer, a half upwards; every caller's divisor is above 0. */
    private static long roundedQuotient(long dividend, long divisor) {
        if (divisor <= 0) {
            return 0;
        }
        return Math.floorDiv(2 * dividend + divisor, 2 * divisor);
    }

    private int pinnedAxes() {
        int pinned = 0;
        for (int axis = 0; axis < axisCount; axis++) {
            if (axes[axis].pinned) {
                pinned |= 1 << axis;
            }
        }
        return pinned;
    }

    /** The outline at the present location, in rows that the next call uses again. */
    private Outline drawnPresent(int glyph) {
        present.clear();
        draw(glyphs, glyph, location, present, 0, 0, 0);
        return present;
    }

    /** Appends the outline of a glyph, moved; a component is an earlier glyph, so the depth stays below 6. */
    private static void draw(Glyph[] glyphs, int number, int[] location, Outline outline,
            long right, long up, int depth) {
        if (number < 0 || number >= MOST_GLYPHS || depth >= MOST_GLYPHS) {
            return;
        }
        Glyph glyph = glyphs[number];
        int firstContour = outline.contours;
        for (int place = 1; place <= glyph.size; place++) {
            long x = right + glyph.placeAt(place, false, location, ALL_AXES);
            long y = up + glyph.placeAt(place, true, location, ALL_AXES);
            if (glyph.composite) {
                draw(glyphs, glyph.children[place], location, outline, x, y, depth + 1);
            } else {
                outline.append(x, y, firstContour + glyph.contour[place]);
            }
        }
    }

    /** The user values of an axis and its segment map; the pairs stand in the order of from. */
    private static final class Axis {
        int least;
        int standard;
        int greatest;
        boolean pinned;
        int pairs;
        final int[] from = new int[MOST_PAIRS];
        final int[] to = new int[MOST_PAIRS];

        void begin(int leastValue, int standardValue, int greatestValue) {
            least = leastValue;
            standard = standardValue;
            greatest = greatestValue;
            for (int pair = 0; pair < 3; pair++) {
                from[pair] = (pair - 1) * UNIT;
                to[pair] = from[pair];
            }
            pairs = 3;
        }

        int coordinateFor(int value) {
            return mapped(unmapped(Math.max(least, Math.min(value, greatest))));
        }

        private int unmapped(int value) {
            if (value < standard) {
                return -(int) roundedQuotient((long) (standard - value) * UNIT, standard - least);
            }
            if (value > standard) {
                return (int) roundedQuotient((long) (value - standard) * UNIT, greatest - standard);
            }
            return 0;
        }

        private int mapped(int n) {
            for (int pair = 0; pair + 1 < pairs; pair++) {
                if (from[pair] <= n && n < from[pair + 1]) {
                    long rise = (long) (n - from[pair]) * (to[pair + 1] - to[pair]);
                    return to[pair] + (int) roundedQuotient(rise, from[pair + 1] - from[pair]);
                }
            }
            return UNIT;
        }

        boolean hasPair(int start) {
            return from[firstPairNotBefore(start)] == start;
        }

        /** Whether a pair would keep the order of to; a pair with the same from would be replaced by it. */
        boolean keepsOrder(int start, int target) {
            for (int pair = 0; pair < pairs; pair++) {
                if ((from[pair] < start && to[pair] > target) || (from[pair] > start && to[pair] < target)) {
                    return false;
                }
            }
            return true;
        }

        void putPair(int start, int target) {
            int place = firstPairNotBefore(start);
            if (from[place] != start && pairs < MOST_PAIRS) {
                for (int pair = pairs; pair > place; pair--) {
                    from[pair] = from[pair - 1];
                    to[pair] = to[pair - 1];
                }
                from[place] = start;
                pairs++;
            }
            to[place] = target;
        }

        private int firstPairNotBefore(int start) {
            int place = 0;
            while (place + 1 < pairs && from[place] < start) {
                place++;
            }
            return place;
        }
    }

    /** A region, and the deltas of what is touched; what an untouched place holds means nothing. */
    private static final class Tuple {
        final int[] start = new int[MOST_AXES];
        final int[] peak = new int[MOST_AXES];
        final int[] end = new int[MOST_AXES];
        /** The bit 1 << place for each place that is touched. */
        int touched;
        final int[] x = new int[PLACES];
        final int[] y = new int[PLACES];

        void begin() {
            touched = 0;
            for (int axis = 0; axis < MOST_AXES; axis++) {
                start[axis] = 0;
                peak[axis] = 0;
                end[axis] = 0;
            }
        }

        void copyFrom(Tuple other) {
            System.arraycopy(other.start, 0, start, 0, MOST_AXES);
            System.arraycopy(other.peak, 0, peak, 0, MOST_AXES);
            System.arraycopy(other.end, 0, end, 0, MOST_AXES);
            touched = other.touched;
            System.arraycopy(other.x, 0, x, 0, PLACES);
            System.arraycopy(other.y, 0, y, 0, PLACES);
        }

        /** Sets the region for an axis; whether this changes it. */
        boolean putRegion(int axis, int newStart, int newPeak, int newEnd) {
            boolean changes = start[axis] != newStart || peak[axis] != newPeak || end[axis] != newEnd;
            start[axis] = newStart;
            peak[axis] = newPeak;
            end[axis] = newEnd;
            return changes;
        }

        boolean hasRegionOf(Tuple other) {
            for (int axis = 0; axis < MOST_AXES; axis++) {
                if (start[axis] != other.start[axis] || peak[axis] != other.peak[axis]
                        || end[axis] != other.end[axis]) {
                    return false;
                }
            }
            return true;
        }

        /** Whether each axis with a peak other than 0 is among these. */
        boolean dependsOnlyOn(int chosenAxes) {
            for (int axis = 0; axis < MOST_AXES; axis++) {
                if (peak[axis] != 0 && !hasBit(chosenAxes, axis)) {
                    return false;
                }
            }
            return true;
        }

        boolean touches(int place) {
            return hasBit(touched, place);
        }

        void putDelta(int place, int deltaX, int deltaY) {
            touched |= 1 << place;
            x[place] = deltaX;
            y[place] = deltaY;
        }

        void dropTouch(int place) {
            touched &= ~(1 << place);
        }

        /** Adds the deltas of another tuple, which touches the same places. */
        void addDeltas(Tuple other) {
            for (int place = 0; place < PLACES; place++) {
                if (touches(place)) {
                    x[place] += other.x[place];
                    y[place] += other.y[place];
                }
            }
        }

        int scalarAt(int[] coordinates) {
            long result = WHOLE;
            for (int axis = 0; axis < MOST_AXES; axis++) {
                result = timesFactor(result, axis, coordinates[axis]);
            }
            return (int) result;
        }

        private long timesFactor(long value, int axis, int c) {
            if (peak[axis] == 0) {
                return value;
            }
            if (c < start[axis] || c > end[axis]) {
                return 0;
            }
            if (c == peak[axis]) {
                return value;
            }
            return c < peak[axis]
                    ? roundedQuotient(value * (c - start[axis]), peak[axis] - start[axis])
                    : roundedQuotient(value * (end[axis] - c), end[axis] - peak[axis]);
        }
    }

    /** A simple or composite glyph with its base positions by place, and its tuples. */
    private static final class Glyph {
        boolean composite;
        /** The number of points or components. */
        int size;
        final int[] x = new int[PLACES];
        final int[] y = new int[PLACES];
        /** The number of the contour of each point of a simple glyph. */
        final int[] contour = new int[PLACES];
        final int[] children = new int[MOST_COMPONENTS + 1];
        int tupleCount;
        final Tuple[] tuples = new Tuple[MOST_TUPLES];

        Glyph() {
            for (int tuple = 0; tuple < MOST_TUPLES; tuple++) {
                tuples[tuple] = new Tuple();
            }
        }

        void begin(boolean isComposite, int advance) {
            composite = isComposite;
            x[ADVANCE] = advance;
        }

        void copyFrom(Glyph other) {
            composite = other.composite;
            size = other.size;
            System.arraycopy(other.x, 0, x, 0, PLACES);
            System.arraycopy(other.y, 0, y, 0, PLACES);
            System.arraycopy(other.contour, 0, contour, 0, PLACES);
            System.arraycopy(other.children, 0, children, 0, MOST_COMPONENTS + 1);
            tupleCount = other.tupleCount;
            for (int tuple = 0; tuple < tupleCount; tuple++) {
                tuples[tuple].copyFrom(other.tuples[tuple]);
            }
        }

        /** Adds a point where there is room for it; its number. */
        int appendPoint(int px, int py, boolean starts) {
            appendPlace(px, py);
            contour[size] = size == 1 ? 0 : contour[size - 1] + (starts ? 1 : 0);
            return size - 1;
        }

        /** Adds a component where there is room for it; its number. */
        int appendComponent(int child, int px, int py) {
            appendPlace(px, py);
            children[size] = child;
            return size - 1;
        }

        /** No tuple touches the new place, as tuples touch only places that are there. */
        private void appendPlace(int px, int py) {
            size++;
            x[size] = px;
            y[size] = py;
        }

        boolean hasChild(int glyph) {
            for (int place = 1; composite && place <= size; place++) {
                if (children[place] == glyph) {
                    return true;
                }
            }
            return false;
        }

        /** The base position moved by the tuples that depend on these axes only. */
        long placeAt(int place, boolean vertical, int[] coordinates, int chosenAxes) {
            long sum = 0;
            for (int tuple = 0; tuple < tupleCount; tuple++) {
                long scalar = tuples[tuple].dependsOnlyOn(chosenAxes) ? tuples[tuple].scalarAt(coordinates) : 0;
                if (scalar != 0) {
                    sum += scalar * deltaAt(tuples[tuple], place, vertical);
                }
            }
            return (vertical ? y[place] : x[place]) + roundedQuotient(sum, WHOLE);
        }

        /** The delta of a place, given or inferred. */
        int deltaAt(Tuple tuple, int place, boolean vertical) {
            if (tuple.touches(place)) {
                return vertical ? tuple.y[place] : tuple.x[place];
            }
            if (composite || place == ADVANCE) {
                return 0;
            }
            int a = touchedNear(tuple, place, false);
            int b = touchedNear(tuple, place, true);
            if (a == ADVANCE || b == ADVANCE) {
                return 0;
            }
            return vertical
                    ? inferredDelta(y[place], y[a], y[b], tuple.y[a], tuple.y[b])
                    : inferredDelta(x[place], x[a], x[b], tuple.x[a], tuple.x[b]);
        }

        /**
         * The touched point of the same contour that comes first from a point, or ADVANCE if there is none.
         * Going around the whole glyph passes the points of the contour in the order around it.
         */
        private int touchedNear(Tuple tuple, int place, boolean forward) {
            int at = place;
            for (int step = 1; step < size; step++) {
                if (forward) {
                    at = at < size ? at + 1 : 1;
                } else {
                    at = at > 1 ? at - 1 : size;
                }
                if (contour[at] == contour[place] && tuple.touches(at)) {
                    return at;
                }
            }
            return ADVANCE;
        }

        /** The delta at c between the touched points A and B, in one direction. */
        private static int inferredDelta(int c, int cA, int cB, int deltaA, int deltaB) {
            if (cA == cB) {
                return deltaA == deltaB ? deltaA : 0;
            }
            int cLeast = Math.min(cA, cB);
            int cGreatest = Math.max(cA, cB);
            int deltaLeast = cA < cB ? deltaA : deltaB;
            int deltaGreatest = cA < cB ? deltaB : deltaA;
            if (c <= cLeast) {
                return deltaLeast;
            }
            if (c >= cGreatest) {
                return deltaGreatest;
            }
            long rise = ((long) c - cLeast) * ((long) deltaGreatest - deltaLeast);
            return deltaLeast + (int) roundedQuotient(rise, (long) cGreatest - cLeast);
        }

        /** Writes the inferred deltas into the untouched places, where they change nothing. */
        private void writeInferred(Tuple tuple) {
            for (int place = 0; place <= size; place++) {
                if (!tuple.touches(place)) {
                    tuple.x[place] = deltaAt(tuple, place, false);
                    tuple.y[place] = deltaAt(tuple, place, true);
                }
            }
        }

        private void touchAll(Tuple tuple) {
            writeInferred(tuple);
            tuple.touched = (1 << (size + 1)) - 1;
        }

        /** Removes a tuple that is there; its rows go to the end, for a tuple to come. */
        private void removeTuple(int number) {
            Tuple removed = tuples[number];
            for (int tuple = number; tuple + 1 < tupleCount; tuple++) {
                tuples[tuple] = tuples[tuple + 1];
            }
            tupleCount--;
            tuples[tupleCount] = removed;
        }

        /** Merges; going down is as good as going up, as sums do not depend on their order. */
        int mergeTuples() {
            int before = tupleCount;
            for (int tuple = tupleCount - 1; tuple > 0; tuple--) {
                int earliest = earliestWithRegionOf(tuple);
                if (earliest < tuple) {
                    touchAll(tuples[earliest]);
                    touchAll(tuples[tuple]);
                    tuples[earliest].addDeltas(tuples[tuple]);
                    removeTuple(tuple);
                }
            }
            return before - tupleCount;
        }

        private int earliestWithRegionOf(int number) {
            for (int tuple = 0; tuple < number; tuple++) {
                if (tuples[tuple].hasRegionOf(tuples[number])) {
                    return tuple;
                }
            }
            return number;
        }

        /** Compacts a tuple; how many places are released. */
        int compactTuple(Tuple tuple) {
            int before = Integer.bitCount(tuple.touched);
            writeInferred(tuple);
            for (int place = 0; place <= size; place++) {
                if (tuple.touches(place)) {
                    releaseIfNeedless(tuple, place);
                }
            }
            return before - Integer.bitCount(tuple.touched);
        }

        private void releaseIfNeedless(Tuple tuple, int place) {
            tuple.dropTouch(place);
            if (!keepsWrittenDeltas(tuple)) {
                tuple.putDelta(place, tuple.x[place], tuple.y[place]);
            }
        }

        /** Whether all deltas are those that stand written in the tuple, also in its untouched places. */
        private boolean keepsWrittenDeltas(Tuple tuple) {
            for (int place = 0; place <= size; place++) {
                if (deltaAt(tuple, place, false) != tuple.x[place]
                        || deltaAt(tuple, place, true) != tuple.y[place]) {
                    return false;
                }
            }
            return true;
        }

        /** Folds in the tuples that depend on pinned axes only; how many these are. */
        int foldTuples(int pinned, int[] coordinates) {
            if (!hasTupleToFold(pinned)) {
                return 0;
            }
            // With every delta given, none is inferred from a base position that has moved already.
            for (int tuple = 0; !composite && tuple < tupleCount; tuple++) {
                touchAll(tuples[tuple]);
            }
            for (int place = 0; place <= size; place++) {
                x[place] = (int) placeAt(place, false, coordinates, pinned);
                y[place] = (int) placeAt(place, true, coordinates, pinned);
            }
            int before = tupleCount;
            for (int tuple = tupleCount - 1; tuple >= 0; tuple--) {
                if (tuples[tuple].dependsOnlyOn(pinned)) {
                    removeTuple(tuple);
                }
            }
            return before - tupleCount;
        }

        private boolean hasTupleToFold(int pinned) {
            for (int tuple = 0; tuple < tupleCount; tuple++) {
                if (tuples[tuple].dependsOnlyOn(pinned)) {
                    return true;
                }
            }
            return false;
        }

        /** Removes the tuples that move nothing; how many these are. */
        int pruneTuples() {
            int before = tupleCount;
            for (int tuple = tupleCount - 1; tuple >= 0; tuple--) {
                if (movesNothing(tuples[tuple])) {
                    removeTuple(tuple);
                }
            }
            return before - tupleCount;
        }

        private boolean movesNothing(Tuple tuple) {
            for (int place = 0; place <= size; place++) {
                if (deltaAt(tuple, place, false) != 0 || deltaAt(tuple, place, true) != 0) {
                    return false;
                }
            }
            return true;
        }
    }

    /** The points of an outline with the numbers of their contours. */
    private static final class Outline {
        int points;
        int contours;
        final long[] x = new long[MOST_OUTLINE_POINTS];
        final long[] y = new long[MOST_OUTLINE_POINTS];
        final int[] contour = new int[MOST_OUTLINE_POINTS];

        void clear() {
            points = 0;
            contours = 0;
        }

        void append(long px, long py, int number) {
            if (points >= MOST_OUTLINE_POINTS) {
                return;
            }
            x[points] = px;
            y[points] = py;
            contour[points] = number;
            points++;
            contours = number + 1;
        }

        long leastOf(boolean vertical) {
            long least = Long.MAX_VALUE;
            for (int point = 0; point < points; point++) {
                least = Math.min(least, vertical ? y[point] : x[point]);
            }
            return least;
        }

        long greatestOf(boolean vertical) {
            long greatest = Long.MIN_VALUE;
            for (int point = 0; point < points; point++) {
                greatest = Math.max(greatest, vertical ? y[point] : x[point]);
            }
            return greatest;
        }

        long contourArea(int number) {
            long sum = 0;
            int first = 0;
            for (int p = 0; p < points; p++) {
                if (p > 0 && contour[p] != contour[p - 1]) {
                    first = p;
                }
                if (contour[p] == number) {
                    int q = p + 1 < points && contour[p + 1] == number ? p + 1 : first;
                    sum += x[p] * y[q] - x[q] * y[p];
                }
            }
            return sum;
        }

        long wholeArea() {
            long sum = 0;
            for (int number = 0; number < contours; number++) {
                sum += contourArea(number);
            }
            return sum;
        }
    }

    /** The latest operations: what each glyph was before, the oldest first. */
    private static final class History {
        int size;
        final int[] numbers = new int[MOST_UNDOS];
        final Glyph[] states = new Glyph[MOST_UNDOS];

        History() {
            for (int state = 0; state < MOST_UNDOS; state++) {
                states[state] = new Glyph();
            }
        }

        void remember(int number, Glyph glyph) {
            if (size >= MOST_UNDOS) {
                forgetOldest();
            }
            numbers[size] = number;
            states[size].copyFrom(glyph);
            size++;
        }

        /** The rows of the oldest state go to the end, for the state to come. */
        private void forgetOldest() {
            Glyph oldest = states[0];
            for (int state = 0; state + 1 < MOST_UNDOS; state++) {
                numbers[state] = numbers[state + 1];
                states[state] = states[state + 1];
            }
            size = MOST_UNDOS - 1;
            states[size] = oldest;
        }
    }

    /** The text, and the location that was read from it last. */
    private static final class LocationText {
        int length;
        final char[] characters = new char[MOST_CHARACTERS];
        int namedAxes;
        final int[] values = new int[MOST_AXES];

        /** Appends a character; whether there was room for it. */
        boolean append(char character) {
            if (length >= MOST_CHARACTERS) {
                return false;
            }
            characters[length] = character;
            length++;
            return true;
        }

        /** Reads the whole text into namedAxes and values; the number of items, or -100 minus the fault. */
        int readItems(int axisCount, int pinned) {
            namedAxes = 0;
            int at = 0;
            for (int items = 1; items <= MOST_AXES; items++) {
                int axis = axisAt(at, axisCount, pinned);
                if (axis < 0) {
                    return FAULT_AT_START - at;
                }
                at++;
                boolean negative = isAt(at, '-');
                at += negative ? 1 : 0;
                int afterNumber = readNumber(at, axis, negative);
                if (afterNumber == at) {
                    return FAULT_AT_START - at;
                }
                at = afterNumber;
                if (at >= length) {
                    return items;
                }
                if (!isAt(at, ';')) {
                    return FAULT_AT_START - at;
                }
                at++;
            }
            // Every axis has been named, so that no letter is allowed here.
            return FAULT_AT_START - at;
        }

        /** The axis whose letter stands here and is allowed, or -1; marks the axis as named. */
        private int axisAt(int at, int axisCount, int pinned) {
            if (at >= length) {
                return -1;
            }
            int axis = characters[at] - 'a';
            if (axis < 0 || axis >= axisCount || hasBit(pinned | namedAxes, axis)) {
                return -1;
            }
            namedAxes |= 1 << axis;
            return axis;
        }

        private boolean isAt(int at, char wanted) {
            return at < length && characters[at] == wanted;
        }

        /** Reads the digits of a number; the index behind them. */
        private int readNumber(int first, int axis, boolean negative) {
            int value = 0;
            int at = first;
            while (at < length && at < first + MOST_DIGITS && characters[at] >= '0' && characters[at] <= '9') {
                value = value * 10 + (characters[at] - '0');
                at++;
            }
            values[axis] = negative ? -value : value;
            return at;
        }
    }
}
