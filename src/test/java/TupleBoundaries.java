/** Each boundary that the promises 13 to 20 name, and what the description says of tuples. */
final class TupleBoundaries {
    /** Two plain axes, and a simple glyph 0 with two points and a tuple; glyph 1 has more of both. */
    private static final String TWO_GLYPHS = """
        addAxis(-16384, 0, 16384) = 0; addAxis(-16384, 0, 16384) = 1
        addGlyph(false, 100) = 0; addGlyph(false, 100) = 1
        addPoint(0, 0, 0, true) = 0; addPoint(0, 10, 10, false) = 1
        addPoint(1, 0, 0, true) = 0; addPoint(1, 10, 10, false) = 1; addPoint(1, 20, 20, false) = 2
        addTuple(0) = 0
        addTuple(1) = 0; addTuple(1) = 1
        """;
    private static final String A_GLYPH = "`glyph`: number of a glyph";
    private static final String A_TUPLE = "`tuple`: a tuple of this glyph";
    private static final String A_POINT = "`point`: a point or component of this glyph, or -1 for the advance";

    private TupleBoundaries() {
    }

    static void run() {
        numbers("setRegion", 14, "0, 0, 1, 2", "1");
        numbers("touch", 15, "-1, 3, 0", "1");
        numbers("release", 16, "-1", "0");
        numbers("delta", 17, "1, true", "0");
        numbers("touchedCount", 18, "", "0");
        numbers("scalar", 19, "", "268435456");
        points("touch", 15, ", 3, 0", "1");
        points("release", 16, "", "0");
        points("delta", 17, ", false", "0");
        addTuple();
        setRegionRanges();
        setRegionAnswers();
        touchRanges();
        touchAnswers();
        release();
        delta();
        touchedCount();
        scalar();
        share();
        descriptionOfTuples();
        factors();
        scalarsInOrder();
        deltasGivenOrNone();
        deltasBetween();
        deltasAround();
    }

    /** The numbers of a glyph and of its tuples, with other arguments that are right. */
    private static void numbers(String name, int promise, String others, String due) {
        String behind = others.isEmpty() ? ")" : ", " + others + ")";
        String noGlyph = behind + " = NO_SUCH_GLYPH\n";
        Boundary.says(promise, A_GLYPH).runs(name + "(0, 0" + noGlyph).runs(TWO_GLYPHS)
                .runs(name + "(-1, 0" + noGlyph).runs(name + "(2, 0" + noGlyph)
                .runs(name + "(2147483647, 0" + noGlyph).runs(name + "(-2147483648, 0" + noGlyph)
                .runs(name + "(0, 0" + behind + " = " + due).runs(name + "(1, 0" + behind + " = " + due);
        String noTuple = behind + " = NO_SUCH_TUPLE\n";
        Boundary.says(promise, A_TUPLE).runs("addGlyph(true, 0); addAxis(0, 0, 1)")
                .runs(name + "(0, 0" + noTuple).anew().runs(TWO_GLYPHS)
                .runs(name + "(0, -1" + noTuple).runs(name + "(0, 1" + noTuple).runs(name + "(1, 2" + noTuple)
                .runs(name + "(0, 2147483647" + noTuple).runs(name + "(0, -2147483648" + noTuple)
                .runs(name + "(0, 0" + behind + " = " + due).runs(name + "(1, 1" + behind + " = " + due)
                .runs("release(0, 0, -1); prune(0) = 1").runs(name + "(0, 0" + noTuple);
    }

    /** The numbers of a point, of a component and of the advance, with other arguments that are right. */
    private static void points(String name, int promise, String others, String due) {
        String behind = others + ")";
        String none = behind + " = NO_SUCH_POINT\n";
        String right = behind + " = " + due + "\n";
        Boundary.says(promise, A_POINT).runs("addGlyph(false, 0); addTuple(0)")
                .runs(name + "(0, 0, 0" + none).runs(name + "(0, 0, -1" + right);
        Boundary.says(promise, A_POINT).runs(TWO_GLYPHS)
                .runs(name + "(0, 0, -2" + none).runs(name + "(0, 0, 2" + none).runs(name + "(1, 0, 3" + none)
                .runs(name + "(0, 0, 2147483647" + none).runs(name + "(0, 0, -2147483648" + none)
                .runs(name + "(0, 0, -1" + right).runs(name + "(0, 0, 0" + right)
                .runs(name + "(0, 0, 1" + behind).runs(name + "(1, 1, 2" + right);
        Boundary.says(promise, A_POINT).runs(TWO_GLYPHS).runs("addGlyph(true, 0); addComponent(2, 1, 0, 0); addTuple(2)")
                .runs(name + "(2, 0, 1" + none).runs(name + "(2, 0, -2" + none)
                .runs(name + "(2, 0, 0" + right).runs(name + "(2, 0, -1" + right);
    }

    private static void addTuple() {
        Boundary.says(13, "Adds a tuple that touches nothing.").runs(TWO_GLYPHS + """
            touchedCount(0, 0) = 0
            touch(0, 0, 0, 5, 5); touch(0, 0, -1, 5, 0); setRegion(0, 0, 0, 1, 2, 3)
            addTuple(0) = 1
            touchedCount(0, 1) = 0
            delta(0, 1, 0, false) = 0; delta(0, 1, -1, false) = 0
            """);
        // A new tuple has nothing of one that was removed before.
        Boundary.says(13, "Adds a tuple that touches nothing.").runs(TWO_GLYPHS + """
            touch(0, 0, 0, 5, 5); touch(0, 0, -1, 5, 0); setRegion(0, 0, 0, -3, 0, 3)
            fold(0) = 1
            addTuple(0) = 0
            touchedCount(0, 0) = 0; delta(0, 0, 0, false) = 0
            setRegion(0, 0, 0, 0, 0, 0) = 0
            setRegion(0, 0, 1, 2, 2, 2) = 1; scalar(0, 0) = 0
            prune(0) = 1
            addTuple(0) = 0
            scalar(0, 0) = 268435456
            setRegion(0, 0, 1, 0, 0, 0) = 0
            """);
        Boundary.says(13, A_GLYPH).runs("""
            addTuple(0) = NO_SUCH_GLYPH
            addGlyph(false, 0); addGlyph(true, 0)
            addTuple(-1) = NO_SUCH_GLYPH
            addTuple(2) = NO_SUCH_GLYPH
            addTuple(2147483647) = NO_SUCH_GLYPH
            addTuple(-2147483648) = NO_SUCH_GLYPH
            addTuple(0) = 0
            addTuple(1) = 0
            """);
        Boundary.says(13, "FULL if the glyph has 5 tuples",
                "Returns the number of the tuple; NO_SUCH_GLYPH; FULL if the glyph has 5 tuples.").runs(TWO_GLYPHS + """
            touch(0, 0, 0, 1, 0)
            addTuple(0) = 1; addTuple(0) = 2; addTuple(0) = 3
            addTuple(0) = 4
            addTuple(0) = FULL
            glyphValue(0, 4) = 5; touchedCount(0, 5) = NO_SUCH_TUPLE
            addTuple(1) = 2
            addTuple(2) = NO_SUCH_GLYPH
            prune(0) = 4
            addTuple(0) = 1
            undo() = 0
            addTuple(0) = FULL
            """);
    }

    private static void setRegionRanges() {
        Boundary.says(14, "Sets the region of a tuple for an axis.").runs(TWO_GLYPHS + """
            setRegion(1, 1, 1, 0, 8192, 16384) = 1
            setCoordinate(1, 8192)
            scalar(1, 1) = 268435456
            setCoordinate(1, 4096)
            scalar(1, 1) = 134217728; scalar(1, 0) = 268435456; scalar(0, 0) = 268435456
            setCoordinate(0, 5)
            scalar(1, 1) = 134217728
            """);
        Boundary.says(14, "`axis`: number of an axis").runs("addGlyph(false, 0); addTuple(0)").runs("""
            setRegion(0, 0, 0, 0, 1, 2) = NO_SUCH_AXIS
            addAxis(0, 0, 1); addAxis(0, 0, 1)
            setRegion(0, 0, -1, 0, 1, 2) = NO_SUCH_AXIS
            setRegion(0, 0, 2, 0, 1, 2) = NO_SUCH_AXIS
            setRegion(0, 0, 3, 0, 1, 2) = NO_SUCH_AXIS
            setRegion(0, 0, 2147483647, 0, 1, 2) = NO_SUCH_AXIS
            setRegion(0, 0, -2147483648, 0, 1, 2) = NO_SUCH_AXIS
            setRegion(0, 0, 0, 0, 1, 2) = 1
            setRegion(0, 0, 1, 0, 1, 2) = 1
            """);
        Boundary.says(14, "`start`: -16384 to peak").runs(TWO_GLYPHS + """
            setRegion(0, 0, 0, -16385, -1, 0) = BAD_VALUE
            setRegion(0, 0, 0, -2147483648, -1, 0) = BAD_VALUE
            setRegion(0, 0, 0, -16384, -1, 0) = 1
            setRegion(0, 0, 0, 5, 4, 6) = BAD_VALUE
            setRegion(0, 0, 0, 2147483647, 4, 6) = BAD_VALUE
            setRegion(0, 0, 0, 4, 4, 6) = 1
            setRegion(0, 0, 0, 1, 0, 6) = BAD_VALUE
            setRegion(0, 0, 0, 0, 0, 6) = 1
            """);
        Boundary.says(14, "`peak`: -16384 to 16384").runs(TWO_GLYPHS + """
            setRegion(0, 0, 0, 0, 16385, 16385) = BAD_VALUE
            setRegion(0, 0, 0, 0, 16385, 16384) = BAD_VALUE
            setRegion(0, 0, 0, 0, 2147483647, 2147483647) = BAD_VALUE
            setRegion(0, 0, 0, 0, 16384, 16384) = 1
            setRegion(0, 0, 0, -16385, -16385, 0) = BAD_VALUE
            setRegion(0, 0, 0, -16384, -16385, 0) = BAD_VALUE
            setRegion(0, 0, 0, -2147483648, -2147483648, 0) = BAD_VALUE
            setRegion(0, 0, 0, -16384, -16384, 0) = 1
            """);
        Boundary.says(14, "`end`: peak to 16384").runs(TWO_GLYPHS + """
            setRegion(0, 0, 0, 0, 4, 3) = BAD_VALUE
            setRegion(0, 0, 0, 0, 4, -2147483648) = BAD_VALUE
            setRegion(0, 0, 0, 0, 4, 4) = 1
            setRegion(0, 0, 0, 0, 4, 16385) = BAD_VALUE
            setRegion(0, 0, 0, 0, 4, 2147483647) = BAD_VALUE
            setRegion(0, 0, 0, 0, 4, 16384) = 1
            setRegion(0, 0, 0, -6, 0, -1) = BAD_VALUE
            setRegion(0, 0, 0, -6, 0, 0) = 1
            """);
    }

    private static void setRegionAnswers() {
        Boundary.says(14, "BAD_VALUE, also if peak is not 0, start is negative and end is positive").runs(TWO_GLYPHS + """
            setRegion(0, 0, 0, -1, 1, 1) = BAD_VALUE
            setRegion(0, 0, 0, 0, 1, 1) = 1
            setRegion(0, 0, 0, -1, -1, 1) = BAD_VALUE
            setRegion(0, 0, 0, -1, -1, 0) = 1
            setRegion(0, 0, 0, -1, 0, 1) = 1
            setRegion(0, 0, 0, -16384, 0, 16384) = 1
            setRegion(0, 0, 0, -16384, 1, 16384) = BAD_VALUE
            setRegion(0, 0, 0, -16384, -1, 16384) = BAD_VALUE
            setRegion(0, 0, 0, -16384, 0, 16384) = 0
            """);
        Boundary.says(14, "Returns 1 if this changes it, otherwise 0").runs(TWO_GLYPHS).asks("""
            setRegion(0, 0, 0, 0, 0, 0) = 0
            """).runs("setRegion(0, 0, 0, 1, 2, 3) = 1").asks("setRegion(0, 0, 0, 1, 2, 3) = 0").runs("""
            setRegion(0, 0, 0, 0, 2, 3) = 1
            setRegion(0, 0, 0, 0, 3, 3) = 1
            setRegion(0, 0, 0, 0, 3, 4) = 1
            setRegion(0, 0, 1, 0, 3, 4) = 1
            setRegion(0, 0, 0, 0, 3, 4) = 0; setRegion(0, 0, 1, 0, 3, 4) = 0
            setRegion(0, 0, 0, 0, 0, 0) = 1
            """);
        Boundary.says(14, "Returns 1 if this changes it, otherwise 0; NO_SUCH_GLYPH; NO_SUCH_TUPLE; NO_SUCH_AXIS;"
                + " BAD_VALUE, also if peak is not 0, start is negative and end is positive.").runs(TWO_GLYPHS + """
            setRegion(2, 5, 4, 5, 4, 3) = NO_SUCH_GLYPH
            setRegion(0, 1, 4, 5, 4, 3) = NO_SUCH_TUPLE
            setRegion(0, 0, 2, 5, 4, 3) = NO_SUCH_AXIS
            setRegion(0, 0, 1, 5, 4, 3) = BAD_VALUE
            setRegion(0, 0, 1, -5, 4, 5) = BAD_VALUE
            setRegion(0, 0, 1, 3, 4, 5) = 1
            """);
    }

    private static void touchRanges() {
        Boundary.says(15, "Lets a tuple touch a point, or changes the delta that it gives it.").runs(TWO_GLYPHS + """
            touch(1, 1, 2, 5, -6) = 1
            delta(1, 1, 2, false) = 5; delta(1, 1, 2, true) = -6
            touchedCount(1, 1) = 1; touchedCount(1, 0) = 0; touchedCount(0, 0) = 0
            touch(1, 1, 2, -7, 8) = 0
            delta(1, 1, 2, false) = -7; delta(1, 1, 2, true) = 8
            touchedCount(1, 1) = 1
            """);
        Boundary.says(15, "`x`: -2000 to 2000").runs(TWO_GLYPHS + """
            touch(0, 0, 0, -2001, 0) = BAD_VALUE
            touch(0, 0, 0, -2147483648, 0) = BAD_VALUE
            touch(0, 0, 0, 2001, 0) = BAD_VALUE
            touch(0, 0, 0, 2147483647, 0) = BAD_VALUE
            touch(0, 0, -1, -2001, 0) = BAD_VALUE
            touch(0, 0, -1, 2001, 0) = BAD_VALUE
            touchedCount(0, 0) = 0
            touch(0, 0, 0, -2000, 0) = 1
            delta(0, 0, 0, false) = -2000
            touch(0, 0, 0, 2000, 0) = 0
            delta(0, 0, 0, false) = 2000
            touch(0, 0, -1, -2000, 0) = 1
            touch(0, 0, -1, 2000, 0) = 0
            touch(0, 0, 0, 2001, 0) = BAD_VALUE
            delta(0, 0, 0, false) = 2000; delta(0, 0, -1, false) = 2000
            """);
        Boundary.says(15, "`y`: -2000 to 2000, 0 for the advance").runs(TWO_GLYPHS + """
            touch(0, 0, 0, 0, -2001) = BAD_VALUE
            touch(0, 0, 0, 0, -2147483648) = BAD_VALUE
            touch(0, 0, 0, 0, 2001) = BAD_VALUE
            touch(0, 0, 0, 0, 2147483647) = BAD_VALUE
            touch(0, 0, -1, 0, 1) = BAD_VALUE
            touch(0, 0, -1, 0, -1) = BAD_VALUE
            touch(0, 0, -1, 0, 2000) = BAD_VALUE
            touch(0, 0, -1, 0, -2000) = BAD_VALUE
            touchedCount(0, 0) = 0
            touch(0, 0, 0, 0, -2000) = 1
            delta(0, 0, 0, true) = -2000
            touch(0, 0, 0, 0, 2000) = 0
            touch(0, 0, -1, 9, 0) = 1
            touch(0, 0, -1, 8, 1) = BAD_VALUE
            delta(0, 0, 0, true) = 2000; delta(0, 0, -1, false) = 9
            """);
    }

    private static void touchAnswers() {
        Boundary.says(15, "Returns 1 if the tuple did not touch the point before, otherwise 0").runs(TWO_GLYPHS + """
            touch(0, 0, 0, 0, 0) = 1
            touch(0, 0, 0, 0, 0) = 0
            touch(0, 0, 1, 0, 0) = 1
            release(0, 0, 0) = 1
            touch(0, 0, 0, 0, 0) = 1
            touch(0, 0, -1, 0, 0) = 1
            touch(0, 0, -1, 5, 0) = 0
            addTuple(0) = 1
            touch(0, 1, 0, 0, 0) = 1
            """);
        Boundary.says(15, "Returns 1 if the tuple did not touch the point before, otherwise 0; NO_SUCH_GLYPH;"
                + " NO_SUCH_TUPLE; NO_SUCH_POINT; BAD_VALUE.").runs(TWO_GLYPHS + """
            touch(2, 5, 9, 2001, 0) = NO_SUCH_GLYPH
            touch(0, 1, 9, 2001, 0) = NO_SUCH_TUPLE
            touch(0, 0, 2, 2001, 0) = NO_SUCH_POINT
            touch(0, 0, -2, 0, 1) = NO_SUCH_POINT
            touch(0, 0, 1, 2001, 0) = BAD_VALUE
            touch(0, 0, 1, 2000, 0) = 1
            """);
    }

    private static void release() {
        Boundary.says(16, "Lets a tuple release a point.").runs(TWO_GLYPHS + """
            touch(0, 0, 0, 5, 6); touch(0, 0, -1, 7, 0)
            release(0, 0, 0) = 1
            touchedCount(0, 0) = 1; delta(0, 0, 0, false) = 0; delta(0, 0, -1, false) = 7
            release(0, 0, -1) = 1
            touchedCount(0, 0) = 0; delta(0, 0, -1, false) = 0
            """);
        Boundary.says(16, "Returns 1 if the tuple touched it, otherwise 0").runs(TWO_GLYPHS + """
            touch(0, 0, 0, 0, 0)
            """).asks("release(0, 0, 1) = 0; release(0, 0, -1) = 0").runs("""
            release(0, 0, 0) = 1
            release(0, 0, 0) = 0
            touch(0, 0, -1, 0, 0); release(0, 0, -1) = 1; release(0, 0, -1) = 0
            """);
        Boundary.says(16, "Returns 1 if the tuple touched it, otherwise 0; NO_SUCH_GLYPH; NO_SUCH_TUPLE; NO_SUCH_POINT.")
                .runs(TWO_GLYPHS + """
            touch(0, 0, 1, 1, 1)
            release(2, 5, 9) = NO_SUCH_GLYPH
            release(0, 1, 9) = NO_SUCH_TUPLE
            release(0, 0, 2) = NO_SUCH_POINT
            release(0, 0, 1) = 1
            """);
    }

    private static void delta() {
        Boundary.says(17, "`vertical`: true for y, false for x").runs(TWO_GLYPHS + "touch(0, 0, 1, 5, -6)").asks("""
            delta(0, 0, 1, false) = 5; delta(0, 0, 1, true) = -6
            delta(0, 0, 0, false) = 5; delta(0, 0, 0, true) = -6
            """).runs("touch(0, 0, -1, 7, 0)").asks("delta(0, 0, -1, false) = 7; delta(0, 0, -1, true) = 0");
        Boundary.says(17, "Returns the delta, given or inferred; NO_SUCH_GLYPH; NO_SUCH_TUPLE; NO_SUCH_POINT.")
                .runs(TWO_GLYPHS + """
            delta(2, 5, 9, true) = NO_SUCH_GLYPH
            delta(0, 1, 9, true) = NO_SUCH_TUPLE
            delta(0, 0, 2, true) = NO_SUCH_POINT
            delta(0, 0, 1, true) = 0
            touch(0, 0, 0, 3, 4)
            delta(0, 0, 0, true) = 4
            delta(0, 0, 1, true) = 4
            """);
    }

    private static void touchedCount() {
        Boundary.says(18, "Counts what a tuple touches.",
                "Returns the number of touched points, the advance included; NO_SUCH_GLYPH; NO_SUCH_TUPLE.")
                .runs(TWO_GLYPHS + """
            touchedCount(2, 9) = NO_SUCH_GLYPH
            touchedCount(0, 1) = NO_SUCH_TUPLE
            touchedCount(0, 0) = 0
            touch(0, 0, -1, 0, 0)
            touchedCount(0, 0) = 1
            touch(0, 0, 0, 0, 0)
            touchedCount(0, 0) = 2
            touch(0, 0, 0, 9, 9)
            touchedCount(0, 0) = 2
            """).anew().runs("addGlyph(false, 0); addTuple(0)\n" + GlyphBoundaries.points(0, 24) + """
            touch(0, 0, 23, 1, 1)
            touchedCount(0, 0) = 1
            merge(0) = 0
            addTuple(0) = 1
            merge(0) = 1
            touchedCount(0, 0) = 25
            """);
    }

    private static void scalar() {
        Boundary.says(19, "Returns its scalar at the present location; NO_SUCH_GLYPH; NO_SUCH_TUPLE.").runs(TWO_GLYPHS + """
            scalar(2, 9) = NO_SUCH_GLYPH
            scalar(0, 1) = NO_SUCH_TUPLE
            setRegion(0, 0, 1, 0, 16384, 16384)
            scalar(0, 0) = 0
            setCoordinate(1, 1)
            scalar(0, 0) = 16384
            setCoordinate(1, 16384)
            scalar(0, 0) = 268435456
            """);
    }

    private static void share() {
        Boundary.says(20, "-1.0 if there is no such glyph or tuple", A_GLYPH, A_TUPLE).runs("""
            share(0, 0) = -1.0
            addGlyph(false, 0)
            share(0, 0) = -1.0
            addTuple(0)
            share(-1, 0) = -1.0
            share(1, 0) = -1.0
            share(2147483647, 0) = -1.0
            share(-2147483648, 0) = -1.0
            share(0, -1) = -1.0
            share(0, 1) = -1.0
            share(0, 2147483647) = -1.0
            share(0, -2147483648) = -1.0
            """).asks("share(0, 0) = 1.0");
        Boundary.says(20, "Returns (double) (its scalar) / 268435456; -1.0 if there is no such glyph or tuple.")
                .runs(TWO_GLYPHS + "setRegion(0, 0, 0, 0, 16384, 16384)\n").asks("share(0, 0) = 0.0").runs("""
            setCoordinate(0, 1)
            share(0, 0) = 0.00006103515625
            setCoordinate(0, 4096)
            share(0, 0) = 0.25
            setCoordinate(0, 16384)
            share(0, 0) = 1.0
            """);
    }

    private static void descriptionOfTuples() {
        Boundary.says(0, "A glyph has up to 5 tuples, numbered from 0.").runs("""
            addGlyph(true, 0); addGlyph(false, 0)
            addTuple(0) = 0; addTuple(0) = 1; addTuple(0) = 2; addTuple(0) = 3; addTuple(0) = 4
            addTuple(0) = FULL
            addTuple(1) = 0
            scalar(0, 4) = 268435456; scalar(0, 5) = NO_SUCH_TUPLE
            """);
        Boundary.says(0, "A tuple has a region: for each axis three numbers start, peak and end, all 0 at first, also for"
                + " axes that are added later.").runs("""
            addGlyph(false, 0); addTuple(0)
            addAxis(-1, 0, 1); addAxis(-1, 0, 1); addAxis(-1, 0, 1); addAxis(-1, 0, 1)
            addTuple(0)
            setRegion(0, 0, 0, 0, 0, 0) = 0; setRegion(0, 0, 3, 0, 0, 0) = 0
            setRegion(0, 1, 0, 0, 0, 0) = 0; setRegion(0, 1, 3, 0, 0, 0) = 0
            merge(0) = 1
            """);
        Boundary.says(0, "A tuple touches some points of the glyph (for a composite glyph: components) and gives each of"
                + " them a delta (x, y); and it may touch the advance, for which the point number -1 stands, and give it"
                + " a delta in x alone.").runs("""
            addGlyph(false, 100); addPoint(0, 0, 0, true); addTuple(0)
            touch(0, 0, -1, 5, 1) = BAD_VALUE
            touch(0, 0, -1, 5, 0) = 1
            touch(0, 0, 0, 6, 7) = 1
            position(0, -1, 2) = 105; position(0, -1, 3) = 0
            position(0, 0, 2) = 6; position(0, 0, 3) = 7
            addGlyph(true, 200); addComponent(1, 0, 10, 20); addTuple(1)
            touch(1, 0, -1, 5, -1) = BAD_VALUE
            touch(1, 0, -1, -5, 0) = 1
            touch(1, 0, 0, -6, -7) = 1
            touch(1, 0, 1, 0, 0) = NO_SUCH_POINT
            position(1, -1, 2) = 195; position(1, -1, 3) = 0
            position(1, 0, 2) = 4; position(1, 0, 3) = 13
            """);
    }

    /** Asks for the scalar of tuple 0 of glyph 0 at coordinates of axis 0: pairs of a coordinate and what is due. */
    private static Boundary scalarsAt(Boundary test, int... pairs) {
        for (int i = 0; i < pairs.length; i += 2) {
            test.runs("setCoordinate(0, " + pairs[i] + "); scalar(0, 0) = " + pairs[i + 1]);
        }
        return test;
    }

    private static void factors() {
        String words = "The factor of an axis with the coordinate c is 1 if its peak is 0; otherwise 0 if c is less than"
                + " start or greater than end; otherwise 1 if c is the peak; otherwise (c - start) / (peak - start) if c"
                + " is less than the peak, and (end - c) / (end - peak) if it is greater.";
        int whole = 268435456;
        Boundary peakZero = Boundary.says(0, words).runs(TWO_GLYPHS + "setRegion(0, 0, 0, -5, 0, 9)");
        scalarsAt(peakZero, -16384, whole, -6, whole, -5, whole, 0, whole, 9, whole, 10, whole, 16384, whole);
        Boundary between = Boundary.says(0, words).runs(TWO_GLYPHS + "setRegion(0, 0, 0, 2, 5, 12)");
        scalarsAt(between, -16384, 0, 1, 0, 2, 0, 3, 89478485, 4, 178956971, 5, whole, 6, 230087534, 11, 38347922,
                12, 0, 13, 0, 16384, 0);
        Boundary startIsPeak = Boundary.says(0, words).runs(TWO_GLYPHS + "setRegion(0, 0, 0, 5, 5, 9)");
        scalarsAt(startIsPeak, 4, 0, 5, whole, 6, 201326592, 8, 67108864, 9, 0, 10, 0);
        Boundary endIsPeak = Boundary.says(0, words).runs(TWO_GLYPHS + "setRegion(0, 0, 0, 1, 5, 5)");
        scalarsAt(endIsPeak, 0, 0, 1, 0, 2, 67108864, 4, 201326592, 5, whole, 6, 0);
        Boundary onePlace = Boundary.says(0, words).runs(TWO_GLYPHS + "setRegion(0, 0, 0, 16384, 16384, 16384)");
        scalarsAt(onePlace, 16383, 0, 16384, whole, -16384, 0, 0, 0);
        Boundary below = Boundary.says(0, words).runs(TWO_GLYPHS + "setRegion(0, 0, 0, -16384, -8192, 0)");
        scalarsAt(below, -16384, 0, -16383, 32768, -8193, whole - 32768, -8192, whole, -8191, whole - 32768,
                -1, 32768, 0, 0, 1, 0, 16384, 0);
    }

    private static void scalarsInOrder() {
        // A third and two thirds: rounded once, or in the other order, it would be 59652324.
        Boundary.says(0, "The scalar of a tuple is computed from 268435456 (2^28): for each axis in ascending order, it is"
                + " multiplied by the factor, and the result is rounded.").runs(TWO_GLYPHS + """
            scalar(0, 0) = 268435456
            setRegion(0, 0, 0, 0, 3, 3); setRegion(0, 0, 1, 0, 3, 3)
            setCoordinate(0, 1); setCoordinate(1, 2)
            scalar(0, 0) = 59652323
            setCoordinate(0, 2); setCoordinate(1, 1)
            scalar(0, 0) = 59652324
            setCoordinate(0, 0)
            scalar(0, 0) = 0
            """);
        Boundary.says(0, "The scalar of a tuple is computed from 268435456 (2^28): for each axis in ascending order, it is"
                + " multiplied by the factor, and the result is rounded.").runs("""
            addAxis(-1, 0, 1); addAxis(-1, 0, 1); addAxis(-1, 0, 1); addAxis(-1, 0, 1)
            addGlyph(false, 0); addTuple(0)
            setRegion(0, 0, 0, 0, 16384, 16384); setRegion(0, 0, 1, 0, 16384, 16384)
            setRegion(0, 0, 2, 0, 16384, 16384); setRegion(0, 0, 3, 0, 16384, 16384)
            setCoordinate(0, 128); setCoordinate(1, 128); setCoordinate(2, 128)
            setCoordinate(3, 8191)
            scalar(0, 0) = 64
            setCoordinate(2, 1); setCoordinate(3, 8192)
            scalar(0, 0) = 1
            setCoordinate(3, 8191)
            scalar(0, 0) = 0
            """);
    }

    private static void deltasGivenOrNone() {
        Boundary.says(0, "The delta of a point by a tuple is what the tuple gives it if it touches the point.")
                .runs(TWO_GLYPHS + """
            touch(1, 0, 0, 10, 10); touch(1, 0, 2, 10, 10)
            delta(1, 0, 1, false) = 10
            touch(1, 0, 1, 0, -2000)
            delta(1, 0, 1, false) = 0; delta(1, 0, 1, true) = -2000
            delta(1, 1, 1, false) = 0
            """);
        Boundary.says(0, "Otherwise it is (0, 0) in a composite glyph and for the advance.").runs(TWO_GLYPHS + """
            addGlyph(true, 0)
            addComponent(2, 0, 0, 0); addComponent(2, 0, 0, 0); addComponent(2, 0, 0, 0)
            addTuple(2)
            touch(2, 0, 0, 5, 6); touch(2, 0, 2, 5, 6)
            delta(2, 0, 1, false) = 0; delta(2, 0, 1, true) = 0
            delta(2, 0, -1, false) = 0; delta(2, 0, -1, true) = 0
            touch(0, 0, 0, 5, 6); touch(0, 0, 1, 5, 6)
            delta(0, 0, -1, false) = 0; delta(0, 0, -1, true) = 0
            """);
        Boundary.says(0, "If the contour has no touched point, the delta is 0.").runs("""
            addGlyph(false, 0); addTuple(0)
            addPoint(0, 0, 0, true); addPoint(0, 10, 10, false)
            addPoint(0, 0, 0, true); addPoint(0, 10, 10, false); addPoint(0, 20, 20, false)
            addPoint(0, 30, 30, true)
            delta(0, 0, 3, false) = 0
            touch(0, 0, -1, 9, 0)
            delta(0, 0, 3, false) = 0
            touch(0, 0, 1, 5, 5); touch(0, 0, 5, 7, 7)
            delta(0, 0, 2, false) = 0; delta(0, 0, 3, true) = 0; delta(0, 0, 4, true) = 0
            delta(0, 0, 0, false) = 5
            release(0, 0, 5)
            delta(0, 0, 5, false) = 0
            """);
        Boundary.says(0, "If the base coordinates of A and B are equal, it is the delta of A if A and B have equal deltas,"
                + " otherwise 0.").runs("""
            addGlyph(false, 0); addTuple(0)
            addPoint(0, 0, 5, true); addPoint(0, 10, 7, false); addPoint(0, 20, 5, false)
            touch(0, 0, 0, 3, 9); touch(0, 0, 2, 4, 9)
            delta(0, 0, 1, true) = 9
            touch(0, 0, 2, 4, 8)
            delta(0, 0, 1, true) = 0
            delta(0, 0, 1, false) = 4
            touch(0, 0, 0, 3, -8)
            delta(0, 0, 1, true) = 0
            release(0, 0, 0)
            delta(0, 0, 0, true) = 8; delta(0, 0, 1, true) = 8
            """);
    }

    private static void deltasBetween() {
        String words = "Otherwise, let L be the one with the lesser base coordinate and G the other one: the delta is that"
                + " of L if the base coordinate of the point is at most that of L, that of G if it is at least that of G,"
                + " and otherwise delta(L) + (c - c(L)) * (delta(G) - delta(L)) / (c(G) - c(L)), the quotient rounded,"
                + " with the base coordinates c.";
        // L is at 10 and G at 20; the points 2 to 8 stand at 9, 10, 11, 15, 19, 20 and 21.
        String line = """
            addGlyph(false, 0); addTuple(0)
            addPoint(0, 10, 20, true); addPoint(0, 20, 10, false)
            addPoint(0, 9, 9, false); addPoint(0, 10, 10, false); addPoint(0, 11, 11, false); addPoint(0, 15, 15, false)
            addPoint(0, 19, 19, false); addPoint(0, 20, 20, false); addPoint(0, 21, 21, false)
            """;
        Boundary.says(0, words).runs(line + """
            touch(0, 0, 0, 5, -25); touch(0, 0, 1, 25, -5)
            delta(0, 0, 2, false) = 5; delta(0, 0, 3, false) = 5; delta(0, 0, 4, false) = 7
            delta(0, 0, 6, false) = 23; delta(0, 0, 7, false) = 25; delta(0, 0, 8, false) = 25
            delta(0, 0, 2, true) = -5; delta(0, 0, 3, true) = -5; delta(0, 0, 4, true) = -7
            delta(0, 0, 6, true) = -23; delta(0, 0, 7, true) = -25; delta(0, 0, 8, true) = -25
            """);
        // The quotients 0.5, 2.5 and 4.5 are rounded upwards, and so are -0.5, -2.5 and -4.5.
        Boundary.says(0, words).runs(line + """
            touch(0, 0, 0, -3, 2); touch(0, 0, 1, 2, 7)
            delta(0, 0, 3, false) = -3; delta(0, 0, 4, false) = -2; delta(0, 0, 5, false) = 0
            delta(0, 0, 6, false) = 2; delta(0, 0, 7, false) = 2
            delta(0, 0, 3, true) = 7; delta(0, 0, 4, true) = 7; delta(0, 0, 5, true) = 5
            delta(0, 0, 6, true) = 3; delta(0, 0, 7, true) = 2
            """);
        Boundary.says(0, words).runs("""
            addGlyph(false, 0); addTuple(0)
            addPoint(0, -4000, 4000, true); addPoint(0, 4000, -4000, false)
            addPoint(0, 3999, 3999, false); addPoint(0, -3999, -3999, false); addPoint(0, 0, 0, false)
            touch(0, 0, 0, -2000, 2000); touch(0, 0, 1, 2000, 2000)
            delta(0, 0, 2, false) = 2000; delta(0, 0, 3, false) = -1999; delta(0, 0, 4, false) = 0
            delta(0, 0, 2, true) = 2000
            """);
    }

    private static void deltasAround() {
        String words = "In a simple glyph it is inferred for each direction by itself: let A be the touched point of the"
                + " same contour that comes first when going backward from the point, and B the one that comes first when"
                + " going forward (both around the contour; they may be the same).";
        // Three contours: the points 0 to 2, 3 to 6, and 7.
        String contours = """
            addGlyph(false, 0); addTuple(0)
            addPoint(0, 0, 0, true); addPoint(0, 10, 10, false); addPoint(0, 20, 20, false)
            addPoint(0, 0, 0, true); addPoint(0, 10, 10, false); addPoint(0, 20, 20, false); addPoint(0, 30, 30, false)
            addPoint(0, 0, 0, true)
            """;
        Boundary.says(0, words).runs(contours + """
            touch(0, 0, 3, 8, -8)
            delta(0, 0, 4, false) = 8; delta(0, 0, 5, false) = 8; delta(0, 0, 6, true) = -8
            delta(0, 0, 2, false) = 0; delta(0, 0, 7, false) = 0
            touch(0, 0, 6, 98, -8)
            delta(0, 0, 4, false) = 38; delta(0, 0, 5, false) = 68; delta(0, 0, 5, true) = -8
            release(0, 0, 3)
            delta(0, 0, 3, false) = 98; delta(0, 0, 4, false) = 98
            touch(0, 0, 4, 0, 0)
            delta(0, 0, 3, false) = 0; delta(0, 0, 5, false) = 49
            touch(0, 0, 5, 20, 0)
            delta(0, 0, 3, false) = 0
            release(0, 0, 4)
            delta(0, 0, 3, false) = 20; delta(0, 0, 4, false) = 20
            """);
        Boundary.says(0, words).runs(contours + """
            touch(0, 0, 0, 0, 3); touch(0, 0, 1, 10, 3)
            delta(0, 0, 2, false) = 10; delta(0, 0, 2, true) = 3
            release(0, 0, 0)
            touch(0, 0, 2, 30, 3)
            delta(0, 0, 0, false) = 10
            release(0, 0, 1); touch(0, 0, 0, 10, 3)
            delta(0, 0, 1, false) = 20
            touch(0, 0, 7, 5, 5)
            delta(0, 0, 7, false) = 5; delta(0, 0, 6, false) = 0; delta(0, 0, 3, false) = 0
            """);
    }
}
