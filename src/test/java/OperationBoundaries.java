/** Each boundary that the promises 28 to 32 name, and what the description says of these operations. */
final class OperationBoundaries {
    /** Two plain axes, and a simple glyph 0 with the points (0, 0), (10, 0), (20, 0) and (30, 0). */
    private static final String LINE = """
        addAxis(-16384, 0, 16384); addAxis(-16384, 0, 16384)
        addGlyph(false, 500) = 0
        addPoint(0, 0, 0, true); addPoint(0, 10, 0, false); addPoint(0, 20, 0, false); addPoint(0, 30, 0, false)
        """;
    /** Beside them a composite glyph 1 with two components. */
    private static final String PAIR = LINE + """
        addGlyph(true, 700) = 1
        addComponent(1, 0, 100, 200); addComponent(1, 0, 300, 400)
        """;
    private static final String A_GLYPH = "`glyph`: number of a glyph";

    private OperationBoundaries() {
    }

    static void run() {
        glyphNumbers("merge", 28);
        glyphNumbers("fold", 30);
        glyphNumbers("prune", 31);
        mergeCounts();
        mergeRegions();
        mergeSums();
        compactNumbers();
        compactOrder();
        compactZeros();
        foldCounts();
        foldTouches();
        foldRounds();
        prune();
        undo();
        undoAtMostSix();
        undoTakesBackAll();
        greatNumbers();
    }

    private static void glyphNumbers(String name, int promise) {
        Boundary.says(promise, A_GLYPH).runs(name + "(0) = NO_SUCH_GLYPH\n" + PAIR
                + name + "(-1) = NO_SUCH_GLYPH\n" + name + "(2) = NO_SUCH_GLYPH\n"
                + name + "(2147483647) = NO_SUCH_GLYPH\n" + name + "(-2147483648) = NO_SUCH_GLYPH\n"
                + "count(3) = 0; undo() = NONE\n"
                + name + "(0) = 0; " + name + "(1) = 0; count(3) = 2");
    }

    private static void mergeCounts() {
        Boundary.says(28, "Merges the tuples of a glyph.", "Returns how many tuples are removed; NO_SUCH_GLYPH.")
                .runs(PAIR + """
            merge(2) = NO_SUCH_GLYPH
            merge(0) = 0
            addTuple(0); merge(0) = 0
            addTuple(0); merge(0) = 1
            glyphValue(0, 4) = 1
            addTuple(0); addTuple(0); addTuple(0); addTuple(0)
            touch(0, 0, 1, 1, 10); touch(0, 1, 1, 2, 20); touch(0, 2, 1, 3, 30); touch(0, 3, 1, 4, 40)
            touch(0, 4, 1, 5, 50); touch(0, 4, -1, 7, 0)
            addTuple(1); addTuple(1)
            merge(0) = 4
            glyphValue(0, 4) = 1; glyphValue(1, 4) = 2
            delta(0, 0, 1, false) = 15; delta(0, 0, 1, true) = 150; delta(0, 0, -1, false) = 7
            delta(0, 0, 0, false) = 14; delta(0, 0, 3, true) = 140
            touchedCount(0, 0) = 5
            merge(1) = 1
            touchedCount(1, 0) = 3
            """);
        Boundary.says(28, "Merges the tuples of a glyph.").runs("""
            addGlyph(false, 0); addTuple(0); addTuple(0); touch(0, 1, -1, 5, 0)
            merge(0) = 1
            touchedCount(0, 0) = 1; delta(0, 0, -1, false) = 5
            """);
    }

    private static String merging() {
        return "Merging: for each tuple, in ascending order, whose region (all numbers of all axes) equals that of an"
                + " earlier tuple, the earliest one of these gets all points and the advance as touched points, with the"
                + " sums of the deltas of both tuples, given or inferred; the later tuple is removed, and those behind it"
                + " are renumbered.";
    }

    private static void mergeRegions() {
        String[] others = {"0, 1, 8, 10", "0, 2, 7, 10", "0, 2, 8, 11", "1, 1, 8, 10", "1, 2, 7, 10", "1, 2, 8, 9"};
        for (String other : others) {
            Boundary.says(0, merging()).runs(LINE + """
                addTuple(0); addTuple(0)
                setRegion(0, 0, 0, 2, 8, 10); setRegion(0, 1, 0, 2, 8, 10)
                setRegion(0, 0, 1, 2, 8, 10); setRegion(0, 1, 1, 2, 8, 10)
                """).runs("setRegion(0, 1, " + other + ") = 1; merge(0) = 0; glyphValue(0, 4) = 2\n"
                    + "touchedCount(0, 0) = 0; touchedCount(0, 1) = 0; setRegion(0, 0, " + other + ") = 1; merge(0) = 1\n"
                    + "setRegion(0, 0, " + other + ") = 0");
        }
        // Without a peak the start and the end count too.
        Boundary.says(0, merging()).runs(LINE + """
            addTuple(0); addTuple(0)
            setRegion(0, 0, 1, -1, 0, 0); merge(0) = 0
            setRegion(0, 0, 1, 0, 0, 1); merge(0) = 0
            setRegion(0, 1, 1, 0, 0, 1); merge(0) = 1
            """);
        // The regions are A, B, A, C, B: A stays 0, B stays 1, and C becomes 2.
        Boundary.says(0, merging()).runs(LINE + """
            addTuple(0); addTuple(0); addTuple(0); addTuple(0); addTuple(0)
            setRegion(0, 0, 0, 0, 1, 2); setRegion(0, 2, 0, 0, 1, 2)
            setRegion(0, 1, 0, 0, 2, 2); setRegion(0, 4, 0, 0, 2, 2)
            setRegion(0, 3, 0, 0, 3, 3)
            touch(0, 0, 0, 1, 0); touch(0, 1, 0, 10, 0); touch(0, 2, 0, 100, 0); touch(0, 3, 0, 1000, 0)
            touch(0, 4, 0, 2000, 0)
            merge(0) = 2
            glyphValue(0, 4) = 3
            delta(0, 0, 0, false) = 101; delta(0, 1, 0, false) = 2010; delta(0, 2, 0, false) = 1000
            touchedCount(0, 0) = 5; touchedCount(0, 1) = 5; touchedCount(0, 2) = 1
            setRegion(0, 0, 0, 0, 1, 2) = 0; setRegion(0, 1, 0, 0, 2, 2) = 0; setRegion(0, 2, 0, 0, 3, 3) = 0
            touchedCount(0, 3) = NO_SUCH_TUPLE
            """);
    }

    private static void mergeSums() {
        Boundary.says(0, merging()).runs(LINE + """
            addTuple(0); addTuple(0)
            touch(0, 0, 0, 0, 0); touch(0, 0, 3, 30, 9); touch(0, 1, 1, 2000, -2000); touch(0, 1, -1, -2000, 0)
            merge(0) = 1
            delta(0, 0, 0, false) = 2000; delta(0, 0, 1, false) = 2010; delta(0, 0, 2, false) = 2020
            delta(0, 0, 3, false) = 2030
            delta(0, 0, 0, true) = -2000; delta(0, 0, 1, true) = -2000; delta(0, 0, 3, true) = -1991
            delta(0, 0, -1, false) = -2000; delta(0, 0, -1, true) = 0
            touchedCount(0, 0) = 5
            addTuple(0); touch(0, 1, -1, -2000, 0)
            merge(0) = 1
            delta(0, 0, -1, false) = -4000; delta(0, 0, 3, false) = 2030
            """);
        Boundary.says(0, merging()).runs(PAIR + """
            addTuple(1); addTuple(1)
            touch(1, 0, 0, 1, 2); touch(1, 1, 0, 10, 20)
            merge(1) = 1
            delta(1, 0, 0, false) = 11; delta(1, 0, 0, true) = 22
            delta(1, 0, 1, false) = 0; delta(1, 0, 1, true) = 0; delta(1, 0, -1, false) = 0
            touchedCount(1, 0) = 3
            """);
        // A released delta is not summed up.
        Boundary.says(0, merging()).runs(LINE + """
            addTuple(0); addTuple(0)
            touch(0, 0, 2, 900, 900); touch(0, 0, -1, 900, 0); release(0, 0, 2) = 1; release(0, 0, -1) = 1
            touch(0, 1, 1, 1, 1)
            merge(0) = 1
            delta(0, 0, 2, false) = 1; delta(0, 0, -1, false) = 0
            """);
    }

    private static void compactNumbers() {
        Boundary.says(29, A_GLYPH, "Compacts a tuple.").runs("compact(0, 0) = NO_SUCH_GLYPH\n" + PAIR + """
            addTuple(0); addTuple(1)
            compact(-1, 0) = NO_SUCH_GLYPH
            compact(2, 0) = NO_SUCH_GLYPH
            compact(2147483647, 0) = NO_SUCH_GLYPH
            compact(-2147483648, 0) = NO_SUCH_GLYPH
            compact(0, 0) = 0; compact(1, 0) = 0
            """);
        Boundary.says(29, "`tuple`: a tuple of this glyph").runs(PAIR + """
            compact(0, 0) = NO_SUCH_TUPLE
            addTuple(0); addTuple(1); addTuple(1)
            compact(0, -1) = NO_SUCH_TUPLE
            compact(0, 1) = NO_SUCH_TUPLE
            compact(1, 2) = NO_SUCH_TUPLE
            compact(0, 2147483647) = NO_SUCH_TUPLE
            compact(0, -2147483648) = NO_SUCH_TUPLE
            count(3) = 0
            compact(0, 0) = 0; compact(1, 1) = 0
            """);
        Boundary.says(29, "Returns how many points are released, the advance included; NO_SUCH_GLYPH; NO_SUCH_TUPLE.")
                .runs(LINE + """
            addTuple(0); addTuple(0)
            compact(1, 9) = NO_SUCH_GLYPH
            compact(0, 2) = NO_SUCH_TUPLE
            compact(0, 0) = 0
            touch(0, 0, -1, 0, 0)
            compact(0, 0) = 1
            touch(0, 0, -1, 0, 0); touch(0, 0, 2, 0, 0)
            compact(0, 0) = 2
            touch(0, 0, -1, 0, 0); touch(0, 0, 0, 0, 0); touch(0, 0, 1, 0, 0); touch(0, 0, 2, 0, 0)
            touch(0, 0, 3, 0, 0); touch(0, 1, 3, 0, 0)
            compact(0, 0) = 5
            touchedCount(0, 0) = 0; touchedCount(0, 1) = 1
            touch(0, 0, -1, 1, 0); touch(0, 0, 0, 0, 1)
            compact(0, 0) = 0
            """);
    }

    private static void compactOrder() {
        String words = "Compacting a tuple: for each touched point of a simple glyph, in ascending order, it is tried"
                + " whether the deltas of all points would stay the same, given or inferred, if the tuple did not touch"
                + " this point (nor those that were released before); if so, it is released.";
        Boundary.says(0, words).runs(LINE + """
            addTuple(0)
            touch(0, 0, 0, 7, -7); touch(0, 0, 1, 7, -7); touch(0, 0, 2, 7, -7); touch(0, 0, 3, 7, -7)
            compact(0, 0) = 3
            release(0, 0, 0) = 0; release(0, 0, 2) = 0
            delta(0, 0, 0, false) = 7; delta(0, 0, 1, true) = -7
            release(0, 0, 3) = 1
            delta(0, 0, 0, false) = 0
            """);
        // Without point 1 its delta stays 5; without both, point 1 would be 5 and point 2 would be 11.
        Boundary.says(0, words).runs(LINE + """
            addTuple(0)
            touch(0, 0, 0, 0, 0); touch(0, 0, 1, 5, 0); touch(0, 0, 2, 10, 0); touch(0, 0, 3, 16, 0)
            compact(0, 0) = 1
            release(0, 0, 1) = 0; release(0, 0, 0) = 1; release(0, 0, 2) = 1; release(0, 0, 3) = 1
            """);
        // Both directions count: in y the point between would be 0.
        Boundary.says(0, words).runs(LINE + """
            addTuple(0)
            touch(0, 0, 0, 0, 3); touch(0, 0, 1, 5, 1); touch(0, 0, 2, 10, 4)
            compact(0, 0) = 0
            touch(0, 0, 1, 5, 0)
            compact(0, 0) = 1
            release(0, 0, 1) = 0
            """);
        // An untouched point would change: point 3 is beyond point 2, which gives its delta.
        Boundary.says(0, words).runs(LINE + """
            addTuple(0)
            touch(0, 0, 0, 0, 0); touch(0, 0, 2, 20, 0)
            compact(0, 0) = 0
            touch(0, 0, 1, 10, 0)
            compact(0, 0) = 1
            touchedCount(0, 0) = 2
            """);
        // Each contour by itself, and a contour of one point.
        Boundary.says(0, words).runs(LINE + """
            addPoint(0, 5, 5, true); addPoint(0, 6, 6, false); addPoint(0, 7, 7, true)
            addTuple(0)
            touch(0, 0, 3, 4, 4); touch(0, 0, 4, 4, 4); touch(0, 0, 5, 4, 4); touch(0, 0, 6, 4, 4)
            compact(0, 0) = 1
            release(0, 0, 4) = 0
            touch(0, 0, 6, 0, 0)
            compact(0, 0) = 1
            release(0, 0, 6) = 0; release(0, 0, 5) = 1; release(0, 0, 3) = 1
            """);
    }

    private static void compactZeros() {
        Boundary.says(0, "In a composite glyph, points with the delta (0, 0) are released.").runs(PAIR + """
            addComponent(1, 0, 500, 600); addComponent(1, 0, 0, 0)
            addTuple(1)
            touch(1, 0, 0, 0, 0); touch(1, 0, 1, 0, 1); touch(1, 0, 2, -1, 0); touch(1, 0, 3, 0, 0)
            compact(1, 0) = 2
            release(1, 0, 0) = 0; release(1, 0, 3) = 0; release(1, 0, 1) = 1; release(1, 0, 2) = 1
            touch(1, 0, 0, 5, 5); touch(1, 0, 1, 5, 5); touch(1, 0, 2, 5, 5)
            compact(1, 0) = 0
            """);
        Boundary.says(0, "The advance is released if its delta is 0.").runs(PAIR + """
            addTuple(0); addTuple(1)
            touch(0, 0, -1, 1, 0); compact(0, 0) = 0
            touch(0, 0, -1, -1, 0); compact(0, 0) = 0
            touch(0, 0, -1, 0, 0); compact(0, 0) = 1
            release(0, 0, -1) = 0
            touch(1, 0, -1, 1, 0); compact(1, 0) = 0
            touch(1, 0, -1, -1, 0); compact(1, 0) = 0
            touch(1, 0, -1, 0, 0); compact(1, 0) = 1
            release(1, 0, -1) = 0
            """);
    }

    private static String folding() {
        return "Folding: the tuples for which each axis with a peak other than 0 is pinned (also those without such an"
                + " axis) are folded in: for each point and the advance, the sum of scalar * delta over these tuples,"
                + " divided by 268435456 and rounded, is added to the base position, for each direction; then these"
                + " tuples are removed.";
    }

    private static void foldCounts() {
        Boundary.says(30, "Folds the tuples of pinned axes into a glyph.",
                "Returns how many tuples are removed; NO_SUCH_GLYPH.").runs(PAIR + """
            fold(2) = NO_SUCH_GLYPH
            fold(0) = 0
            addTuple(0); fold(0) = 1
            addTuple(0); addTuple(0); addTuple(0); addTuple(0); addTuple(0); addTuple(1)
            fold(0) = 5
            glyphValue(0, 4) = 0; glyphValue(1, 4) = 1
            fold(1) = 1
            """);
        // One of two axes is not pinned; then both are. A scalar of 0 folds nothing in, but the tuple goes.
        Boundary.says(0, folding()).runs(LINE + """
            addTuple(0); setRegion(0, 0, 0, 0, 16384, 16384); setRegion(0, 0, 1, -16384, -16384, 0)
            touch(0, 0, 0, 100, -40)
            setCoordinate(0, 8192); setCoordinate(1, -8192)
            fold(0) = 0
            pin(1, true); fold(0) = 0
            pin(1, false); pin(0, true); fold(0) = 0
            pin(1, true); fold(0) = 1
            position(0, 3, 0) = 55; position(0, 3, 1) = -10
            addTuple(0); setRegion(0, 0, 0, 0, 5, 10); touch(0, 0, 0, 100, 100)
            fold(0) = 1
            position(0, 0, 0) = 25
            """);
        Boundary.says(0, folding()).runs(LINE + """
            addTuple(0); setRegion(0, 0, 0, -9, 0, 9); touch(0, 0, 3, 5, 6)
            addTuple(0); setRegion(0, 1, 1, 0, 1, 1); touch(0, 1, 3, 7, 8); touch(0, 1, -1, 3, 0)
            setCoordinate(1, 1)
            fold(0) = 1
            position(0, 0, 0) = 5; position(0, 0, 1) = 6; position(0, -1, 0) = 500
            glyphValue(0, 4) = 1; delta(0, 0, 0, false) = 7; setRegion(0, 0, 1, 0, 1, 1) = 0
            pin(1, true)
            fold(0) = 1
            position(0, 0, 0) = 12; position(0, 0, 1) = 14; position(0, -1, 0) = 503; position(0, -1, 1) = 0
            """);
    }

    private static void foldTouches() {
        String words = "Before, if the glyph is simple, and there is such a tuple, all other tuples get all points and the"
                + " advance as touched points, with the deltas that they had.";
        String two = """
            addTuple(0); setRegion(0, 0, 0, 0, 1, 1); touch(0, 0, 0, 0, 0); touch(0, 0, 3, 900, 0)
            addTuple(0); setRegion(0, 1, 1, 0, 1, 1); touch(0, 1, 0, 0, 0); touch(0, 1, 3, 90, 30)
            setCoordinate(0, 1)
            """;
        Boundary.says(0, words).runs(LINE + two + """
            fold(0) = 0
            touchedCount(0, 0) = 2; touchedCount(0, 1) = 2
            pin(0, true)
            fold(0) = 1
            position(0, 1, 0) = 310; position(0, 2, 0) = 620; position(0, 3, 0) = 930
            touchedCount(0, 0) = 5
            delta(0, 0, 1, false) = 30; delta(0, 0, 2, false) = 60; delta(0, 0, 1, true) = 0
            delta(0, 0, -1, false) = 0
            touch(0, 0, 1, 500, 0)
            release(0, 0, 2) = 1
            delta(0, 0, 2, false) = 295
            """);
        // The tuple that is folded in moves point 0 away, between the two others in number.
        String three = """
            addTuple(0); setRegion(0, 0, 1, 0, 1, 1); touch(0, 0, 0, 0, 0); touch(0, 0, 3, 90, 0)
            addTuple(0); setRegion(0, 1, 0, 0, 1, 1); touch(0, 1, 0, 900, 7); touch(0, 1, 3, 0, 7)
            addTuple(0); setRegion(0, 2, 1, 0, 1, 1); touch(0, 2, 0, 60, 0); touch(0, 2, 2, 0, 0)
            setCoordinate(0, 1); pin(0, true)
            """;
        Boundary.says(0, words).runs(LINE + three + """
            fold(0) = 1
            position(0, 0, 0) = 900; position(0, 1, 0) = 610; position(0, 2, 0) = 320; position(0, 3, 0) = 30
            position(0, 1, 1) = 7; position(0, -1, 0) = 500
            glyphValue(0, 4) = 2; touchedCount(0, 0) = 5; touchedCount(0, 1) = 5
            delta(0, 0, 1, false) = 30; delta(0, 0, 2, false) = 60
            delta(0, 1, 1, false) = 30; delta(0, 1, 3, false) = 0
            setRegion(0, 0, 1, 0, 1, 1) = 0; setRegion(0, 1, 1, 0, 1, 1) = 0
            """);
        // The first of the tuples is folded in, and it moves points from which others are inferred.
        Boundary.says(0, words).runs(LINE + """
            addTuple(0); touch(0, 0, 0, 900, 0); touch(0, 0, 3, 0, 0)
            addTuple(0); setRegion(0, 1, 1, 0, 1, 1)
            fold(0) = 1
            position(0, 0, 0) = 900; position(0, 1, 0) = 610; position(0, 2, 0) = 320; position(0, 3, 0) = 30
            touchedCount(0, 0) = 5
            """);
        // Without points the advance alone is touched.
        Boundary.says(0, words).runs("""
            addAxis(-1, 0, 1); addGlyph(false, 0); addTuple(0); addTuple(0); setRegion(0, 1, 0, 0, 1, 1)
            fold(0) = 1
            touchedCount(0, 0) = 1; delta(0, 0, -1, false) = 0
            """);
        Boundary.says(0, words).runs(PAIR + """
            addTuple(1); touch(1, 0, 0, 11, 12); touch(1, 0, -1, 13, 0)
            addTuple(1); setRegion(1, 1, 0, 0, 1, 1); touch(1, 1, 1, 5, 5)
            fold(1) = 1
            position(1, 0, 0) = 111; position(1, 0, 1) = 212; position(1, 1, 0) = 300; position(1, -1, 0) = 713
            touchedCount(1, 0) = 1
            """);
    }

    private static void foldRounds() {
        // Two halves are 1; a half alone goes up, and a negative half too.
        Boundary.says(0, folding()).runs(LINE + """
            addTuple(0); setRegion(0, 0, 0, 0, 16384, 16384); touch(0, 0, 0, 1, -1)
            addTuple(0); setRegion(0, 1, 0, 0, 16384, 16384); touch(0, 1, 0, 1, -1)
            setCoordinate(0, 8192); pin(0, true)
            fold(0) = 2
            position(0, 0, 0) = 1; position(0, 0, 1) = -1
            addTuple(0); setRegion(0, 0, 0, 0, 16384, 16384); touch(0, 0, 0, 1, -1); touch(0, 0, -1, -3, 0)
            fold(0) = 1
            position(0, 0, 0) = 2; position(0, 0, 1) = -1; position(0, -1, 0) = 499
            """);
        // Just below a half, and just above it.
        Boundary.says(0, folding()).runs("""
            addAxis(-16384, 0, 16384); setCoordinate(0, 1); pin(0, true)
            addGlyph(false, 100); addPoint(0, 0, 0, true)
            addTuple(0); setRegion(0, 0, 0, 0, 14, 14); touch(0, 0, 0, 7, -7); touch(0, 0, -1, 7, 0)
            fold(0) = 1
            position(0, 0, 0) = 0; position(0, 0, 1) = 0; position(0, -1, 0) = 100
            addTuple(0); setRegion(0, 0, 0, 0, 6, 6); touch(0, 0, 0, 3, -3); touch(0, 0, -1, 3, 0)
            fold(0) = 1
            position(0, 0, 0) = 1; position(0, 0, 1) = -1; position(0, -1, 0) = 101
            """);
        // A half, beside a tuple that is not folded in and would bring it below a half.
        Boundary.says(0, folding()).runs("""
            addAxis(-16384, 0, 16384); addAxis(-16384, 0, 16384); setCoordinate(0, 8192); setCoordinate(1, 16384)
            pin(0, true); addGlyph(false, 100); addPoint(0, 0, 0, true)
            addTuple(0); setRegion(0, 0, 1, 0, 16384, 16384); touch(0, 0, 0, -2000, 2000); touch(0, 0, -1, -2000, 0)
            addTuple(0); setRegion(0, 1, 0, 0, 16384, 16384); touch(0, 1, 0, 1, -1); touch(0, 1, -1, 1, 0)
            fold(0) = 1
            position(0, 0, 0) = 1; position(0, 0, 1) = 0; position(0, -1, 0) = 101
            """);
        // Base positions beyond what addPoint and addGlyph allow.
        Boundary.says(0, folding()).runs("""
            addGlyph(false, 4000); addPoint(0, 4000, -4000, true); addGlyph(true, 0); addComponent(1, 0, -4000, 4000)
            addTuple(0); touch(0, 0, 0, 2000, -2000); touch(0, 0, -1, 2000, 0)
            addTuple(1); touch(1, 0, 0, -2000, 2000); touch(1, 0, -1, -2000, 0)
            fold(0) = 1; fold(1) = 1
            position(0, 0, 0) = 6000; position(0, 0, 1) = -6000; glyphValue(0, 5) = 6000
            position(1, 0, 0) = -6000; position(1, 0, 1) = 6000; glyphValue(1, 5) = -2000
            """);
    }

    private static void prune() {
        Boundary.says(31, "Prunes the tuples of a glyph.", "Returns how many tuples are removed; NO_SUCH_GLYPH.")
                .runs(PAIR + """
            prune(2) = NO_SUCH_GLYPH
            prune(0) = 0
            addTuple(0); prune(0) = 1
            addTuple(0); addTuple(0); addTuple(0); addTuple(0); addTuple(0); addTuple(1)
            prune(0) = 5
            glyphValue(0, 4) = 0; glyphValue(1, 4) = 1
            prune(1) = 1
            """);
        Boundary.says(0, "Pruning: tuples are removed whose deltas are 0 for all points and the advance, given or"
                + " inferred.").runs(PAIR + """
            addTuple(0); addTuple(0); addTuple(0); addTuple(0); addTuple(0)
            touch(0, 0, 0, 0, 0); touch(0, 0, 3, 0, 0); touch(0, 0, -1, 0, 0)
            touch(0, 1, 3, 0, 1); touch(0, 2, 3, -1, 0); touch(0, 3, -1, -1, 0)
            prune(0) = 2
            delta(0, 0, 3, true) = 1; delta(0, 1, 3, false) = -1; delta(0, 2, -1, false) = -1
            touchedCount(0, 0) = 1; touchedCount(0, 2) = 1
            prune(0) = 0
            touch(0, 1, 3, 0, 0)
            setRegion(0, 2, 0, 5, 5, 5)
            prune(0) = 1
            delta(0, 1, -1, false) = -1; setRegion(0, 1, 0, 5, 5, 5) = 0
            addTuple(1); addTuple(1); addTuple(1)
            touch(1, 0, 1, 0, 2); touch(1, 1, 0, 0, 0); touch(1, 2, -1, 3, 0)
            prune(1) = 1
            delta(1, 0, 1, true) = 2; delta(1, 1, -1, false) = 3
            """);
    }

    private static void undo() {
        Boundary.says(32, "Undoes the latest operation that is remembered.").runs(PAIR + """
            addTuple(0); touch(0, 0, 0, 5, 5)
            prune(1) = 0; fold(0) = 1; merge(1) = 0
            undo() = 1
            position(0, 0, 0) = 5
            undo() = 0
            position(0, 0, 0) = 0; delta(0, 0, 0, false) = 5
            undo() = 1
            undo() = NONE
            """);
        Boundary.says(32, "NONE if there is none (nothing changes then)",
                "Returns the number of its glyph; NONE if there is none (nothing changes then).").runs("""
            undo() = NONE
            """).runs(PAIR + """
            undo() = NONE
            addTuple(0); touch(0, 0, 0, 5, 5); setCoordinate(0, 9); pin(0, true); addInstance(); type('a')
            undo() = NONE
            compact(0, 1) = NO_SUCH_TUPLE; merge(2) = NO_SUCH_GLYPH
            undo() = NONE
            compact(0, 0) = 0
            undo() = 0
            undo() = NONE
            undo() = NONE
            count(3) = 0
            """);
    }

    private static void undoAtMostSix() {
        Boundary.says(0, "At most the 6 latest ones are remembered.").runs("""
            addGlyph(false, 100); addGlyph(false, 200)
            addTuple(0); touch(0, 0, -1, 1, 0); fold(0) = 1; count(3) = 1
            addTuple(0); touch(0, 0, -1, 1, 0); fold(0) = 1
            merge(1) = 0; prune(1) = 0
            addTuple(0); touch(0, 0, -1, 1, 0); fold(0) = 1; count(3) = 5
            addTuple(0); touch(0, 0, -1, 1, 0); fold(0) = 1; count(3) = 6
            addTuple(1); touch(1, 0, -1, 1, 0); fold(1) = 1; count(3) = 6
            glyphValue(0, 5) = 104; glyphValue(1, 5) = 201
            undo() = 1; count(3) = 5; glyphValue(1, 5) = 200
            undo() = 0; glyphValue(0, 5) = 103
            undo() = 0; glyphValue(0, 5) = 102
            undo() = 1; undo() = 1
            count(3) = 1
            undo() = 0; glyphValue(0, 5) = 101
            undo() = NONE
            count(3) = 0; glyphValue(0, 5) = 101
            """);
        // Six are remembered, and the first of them is still there; a seventh takes its place.
        Boundary.says(0, "At most the 6 latest ones are remembered.").runs("""
            addGlyph(false, 0); addGlyph(false, 0)
            prune(1); prune(0); prune(0); prune(0); prune(0); prune(0)
            count(3) = 6
            undo() = 0; undo() = 0; undo() = 0; undo() = 0; undo() = 0; undo() = 1; undo() = NONE
            prune(1); prune(0); prune(0); prune(0); prune(0); prune(0); prune(0)
            count(3) = 6
            undo() = 0; undo() = 0; undo() = 0; undo() = 0; undo() = 0; undo() = 0; undo() = NONE
            """);
    }

    private static void undoTakesBackAll() {
        String words = "Each successful call of one of these operations can be undone, also if it changed nothing: the"
                + " glyph becomes what it was before, with its points, components, tuples and advance.";
        String state = PAIR + """
            addTuple(0); addTuple(0); addTuple(0); addTuple(0)
            touch(0, 0, 0, 7, 0); touch(0, 0, 1, 7, 0); touch(0, 1, 2, 0, 9); touch(0, 0, -1, 4, 0)
            setRegion(0, 3, 0, 0, 1, 2); touch(0, 3, 1, 2, 2); setRegion(0, 2, 1, -3, 0, 3)
            addTuple(1); addTuple(1); touch(1, 0, 0, 3, 4); touch(1, 1, 1, 0, 0); touch(1, 1, -1, 6, 0)
            addGlyph(false, 9) = 2; addTuple(2)
            """;
        String[] first = {"merge(0) = 1", "compact(0, 0) = 1", "fold(0) = 3", "prune(0) = 1"};
        String[] second = {"merge(1) = 1", "compact(1, 1) = 1", "fold(1) = 2", "prune(1) = 0"};
        for (String operation : first) {
            Boundary.says(0, words).runs(state).takesBack(operation + "; undo() = 0").takesBack(operation + """

                addTuple(0); touch(0, 0, 3, 1, 1); setRegion(0, 0, 1, 0, 5, 5); release(0, 0, 0)
                undo() = 0
                """).runs("count(3) = 0");
        }
        for (String operation : second) {
            Boundary.says(0, words).runs(state).takesBack(operation + "; undo() = 1").takesBack(operation + """

                addComponent(1, 0, 9, 9) = 2; addTuple(1); touch(1, 0, 2, 1, 1); setRegion(1, 0, 1, 0, 5, 5)
                undo() = 1
                """);
        }
        String[] nothing = {"merge(2) = 0", "compact(2, 0) = 0"};
        for (String operation : nothing) {
            Boundary.says(0, words).runs(state).takesBack(operation + """

                addPoint(2, 1, 1, true) = 0; addPoint(2, 2, 2, true) = 1; touch(2, 0, 1, 5, 5)
                undo() = 2
                """).runs("addPoint(2, 3, 3, false) = 0; glyphValue(2, 2) = 1; touchedCount(2, 0) = 0");
        }
        // Coordinates, pins, instances and the text are none of the glyph.
        Boundary.says(0, words).runs(state + """
            merge(0) = 1
            setCoordinate(0, 77); pin(1, true); addInstance() = 0; type('a') = 1; addMapPair(0, 5, 5) = 4
            undo() = 0
            axisValue(0, 0) = 77; axisValue(1, 5) = 1; count(2) = 1; clearText() = 1; axisValue(0, 4) = 4
            """);
    }

    /** Deltas that many merges have summed up, as far as 512 calls allow: no int is too small for them on the way. */
    private static void greatNumbers() {
        Boundary test = Boundary.says(0, merging(), folding()).runs("""
            addGlyph(false, 0); addPoint(0, -4000, -4000, true); addPoint(0, 4000, 4000, false)
            addPoint(0, 1000, -1000, false)
            """);
        merges(test);
        test.runs("""
            delta(0, 0, 0, false) = -120000; delta(0, 0, 1, true) = 120000; delta(0, 0, 2, false) = 30000
            fold(0) = 1
            position(0, 0, 0) = -124000; position(0, 1, 1) = 124000; position(0, 2, 0) = 31000
            position(0, 2, 1) = -31000
            """);
        merges(test);
        test.runs("""
            release(0, 0, 2) = 1
            delta(0, 0, 2, false) = 30000; delta(0, 0, 2, true) = -30000
            outline(0, 0, 0) = -244000; outline(0, 1, 1) = 244000; outline(0, 2, 0) = 61000; outline(0, 2, 1) = -61000
            area(0, 0) = -59536000000
            box(0, 0) = -244000; box(0, 3) = 244000; middle(0, true) = 0.0; flips(0) = 0
            """);
    }

    private static void merges(Boundary test) {
        for (int round = 0; round < 15; round++) {
            for (int tuple = 0; tuple < 4; tuple++) {
                test.runs("addTuple(0)");
                int number = round == 0 ? tuple : tuple + 1;
                test.runs("touch(0, " + number + ", 0, -2000, -2000); touch(0, " + number + ", 1, 2000, 2000)");
            }
            test.runs("merge(0) = " + (round == 0 ? 3 : 4));
        }
    }
}
