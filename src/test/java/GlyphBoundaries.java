/** Each boundary that the promises 9 to 12 name, and what the description says of glyphs. */
final class GlyphBoundaries {
    private GlyphBoundaries() {
    }

    static void run() {
        addGlyph();
        addPointRanges();
        addPointStarts();
        addPointRefused();
        addComponentRanges();
        addComponentRefused();
        addComponentFull();
        untouched();
        glyphValue();
        descriptionOfGlyphs();
    }

    /** Calls that add points (0, 0), (1, 0), (2, 0) and so on to a simple glyph that has none yet. */
    static String points(int glyph, int number) {
        StringBuilder calls = new StringBuilder();
        for (int point = 0; point < number; point++) {
            calls.append("addPoint(").append(glyph).append(", ").append(point).append(", 0, false) = ")
                    .append(point).append('\n');
        }
        return calls.toString();
    }

    private static void addGlyph() {
        Boundary.says(9, "Adds a glyph without points or components.", "`composite`: true for a composite glyph").runs("""
            addGlyph(false, 7) = 0
            addGlyph(true, 8) = 1
            glyphValue(0, 0) = 0; glyphValue(1, 0) = 1
            glyphValue(0, 1) = 0; glyphValue(1, 1) = 0
            glyphValue(0, 4) = 0; glyphValue(1, 4) = 0
            position(0, 0, 0) = NO_VALUE; position(1, 0, 0) = NO_VALUE
            outline(0, 0, 0) = NO_VALUE; outline(1, 0, 0) = NO_VALUE
            """);
        Boundary.says(9, "`advance`: 0 to 4000").runs("""
            addGlyph(false, -1) = BAD_VALUE
            addGlyph(true, -2147483648) = BAD_VALUE
            addGlyph(false, 4001) = BAD_VALUE
            addGlyph(true, 2147483647) = BAD_VALUE
            addGlyph(false, 0) = 0
            addGlyph(true, 4000) = 1
            glyphValue(0, 5) = 0; glyphValue(1, 5) = 4000
            """);
        String six = """
            addGlyph(false, 10) = 0; addGlyph(false, 11) = 1; addGlyph(true, 12) = 2
            addGlyph(true, 13) = 3; addGlyph(false, 14) = 4
            addGlyph(true, 15) = 5
            """;
        Boundary.says(9, "FULL if there are 6 glyphs").runs(six + """
            addGlyph(true, 16) = FULL
            addGlyph(false, 0) = FULL
            count(1) = 6
            glyphValue(5, 5) = 15
            glyphValue(6, 5) = NO_SUCH_GLYPH
            """);
        Boundary.says(9, "Returns the number of the glyph; BAD_VALUE; FULL if there are 6 glyphs.").runs(six + """
            addGlyph(true, -1) = BAD_VALUE
            addGlyph(true, 4001) = BAD_VALUE
            addGlyph(true, 4000) = FULL
            """);
    }

    private static void addPointRanges() {
        Boundary.says(10, "Adds a point to a simple glyph.").runs("""
            addGlyph(false, 0); addGlyph(false, 0)
            addPoint(1, 7, -8, true) = 0
            position(1, 0, 0) = 7; position(1, 0, 1) = -8
            glyphValue(1, 1) = 1; glyphValue(0, 1) = 0
            """);
        Boundary.says(10, "`glyph`: number of a glyph").runs("""
            addPoint(0, 0, 0, true) = NO_SUCH_GLYPH
            addGlyph(false, 0); addGlyph(false, 0)
            addPoint(-1, 0, 0, true) = NO_SUCH_GLYPH
            addPoint(2, 0, 0, true) = NO_SUCH_GLYPH
            addPoint(2147483647, 0, 0, true) = NO_SUCH_GLYPH
            addPoint(-2147483648, 0, 0, true) = NO_SUCH_GLYPH
            addPoint(0, 0, 0, true) = 0
            addPoint(1, 0, 0, true) = 0
            """);
        Boundary.says(10, "`x`: -4000 to 4000").runs("""
            addGlyph(false, 0)
            addPoint(0, -4001, 0, true) = BAD_VALUE
            addPoint(0, -2147483648, 0, true) = BAD_VALUE
            addPoint(0, 4001, 0, true) = BAD_VALUE
            addPoint(0, 2147483647, 0, true) = BAD_VALUE
            addPoint(0, -4000, 0, true) = 0
            addPoint(0, 4000, 0, true) = 1
            position(0, 0, 0) = -4000; position(0, 1, 0) = 4000
            """);
        Boundary.says(10, "`y`: -4000 to 4000").runs("""
            addGlyph(false, 0)
            addPoint(0, 0, -4001, true) = BAD_VALUE
            addPoint(0, 0, -2147483648, true) = BAD_VALUE
            addPoint(0, 0, 4001, true) = BAD_VALUE
            addPoint(0, 0, 2147483647, true) = BAD_VALUE
            addPoint(0, 0, -4000, true) = 0
            addPoint(0, 0, 4000, true) = 1
            position(0, 0, 1) = -4000; position(0, 1, 1) = 4000
            """);
    }

    private static void addPointStarts() {
        Boundary.says(10, "`starts`: true if it begins a new contour (the first point of a glyph always does)").runs("""
            addGlyph(false, 0)
            addPoint(0, 0, 0, false) = 0
            glyphValue(0, 2) = 1; outline(0, 0, 2) = 0
            addPoint(0, 1, 0, false) = 1
            glyphValue(0, 2) = 1; outline(0, 1, 2) = 0
            addPoint(0, 2, 0, true) = 2
            glyphValue(0, 2) = 2; outline(0, 2, 2) = 1
            addPoint(0, 3, 0, true) = 3
            glyphValue(0, 2) = 3; outline(0, 3, 2) = 2
            addPoint(0, 4, 0, false) = 4
            glyphValue(0, 2) = 3; outline(0, 4, 2) = 2
            addGlyph(false, 0) = 1
            addPoint(1, 0, 0, true) = 0
            glyphValue(1, 2) = 1; outline(1, 0, 2) = 0
            """);
        // After an undo that takes all points away, the next point is the first one again.
        Boundary.says(10, "`starts`: true if it begins a new contour (the first point of a glyph always does)").runs("""
            addGlyph(false, 0)
            prune(0) = 0
            addPoint(0, 0, 0, false); addPoint(0, 1, 1, true)
            undo() = 0
            addPoint(0, 5, 5, false) = 0
            glyphValue(0, 2) = 1; outline(0, 0, 2) = 0
            """);
    }

    private static void addPointRefused() {
        Boundary.says(10, "NOT_POSSIBLE if the glyph is composite, or a component of another one").runs("""
            addGlyph(false, 0); addGlyph(true, 0); addGlyph(false, 0); addGlyph(true, 0)
            addPoint(1, 0, 0, true) = NOT_POSSIBLE
            addPoint(3, 0, 0, true) = NOT_POSSIBLE
            addPoint(0, 0, 0, true) = 0
            addComponent(1, 0, 0, 0) = 0
            addPoint(0, 1, 1, false) = NOT_POSSIBLE
            addPoint(2, 1, 1, false) = 0
            addComponent(3, 2, 0, 0) = 0
            addPoint(2, 1, 1, false) = NOT_POSSIBLE
            addPoint(1, 1, 1, false) = NOT_POSSIBLE
            """);
        // A glyph that undo() has taken out of the only glyph that it was a component of.
        Boundary.says(10, "NOT_POSSIBLE if the glyph is composite, or a component of another one").runs("""
            addGlyph(false, 0); addGlyph(true, 0)
            merge(1) = 0
            addComponent(1, 0, 0, 0) = 0
            addPoint(0, 1, 1, false) = NOT_POSSIBLE
            undo() = 1
            addPoint(0, 1, 1, false) = 0
            """);
        Boundary.says(10, "FULL if it has 24 points").runs("addGlyph(false, 0); addGlyph(false, 0)\n"
                + points(0, 23) + """
            glyphValue(0, 1) = 23
            addPoint(0, 4000, -4000, true) = 23
            addPoint(0, 0, 0, true) = FULL
            addPoint(0, 0, 0, false) = FULL
            glyphValue(0, 1) = 24; glyphValue(0, 2) = 2
            position(0, 23, 0) = 4000; position(0, 24, 0) = NO_VALUE
            addPoint(1, 0, 0, true) = 0
            """);
        Boundary.says(10, "Returns the number of the point; NO_SUCH_GLYPH; BAD_VALUE; NOT_POSSIBLE if the glyph is"
                + " composite, or a component of another one; FULL if it has 24 points.").runs(
                "addGlyph(false, 0); addGlyph(true, 0)\n" + points(0, 24) + """
            addPoint(2, 4001, 0, true) = NO_SUCH_GLYPH
            addPoint(0, 4001, 0, true) = BAD_VALUE
            addPoint(1, 0, -4001, true) = BAD_VALUE
            addPoint(1, 0, -4000, true) = NOT_POSSIBLE
            addPoint(0, 0, -4000, true) = FULL
            addComponent(1, 0, 0, 0) = 0
            addPoint(0, 0, -4001, true) = BAD_VALUE
            addPoint(0, 0, -4000, true) = NOT_POSSIBLE
            """);
    }

    private static void addComponentRanges() {
        Boundary.says(11, "Adds a component to a composite glyph.").runs("""
            addGlyph(false, 0); addGlyph(true, 0)
            addComponent(1, 0, 7, -8) = 0
            position(1, 0, 0) = 7; position(1, 0, 1) = -8
            glyphValue(1, 1) = 1; glyphValue(0, 1) = 0
            """);
        Boundary.says(11, "`glyph`: number of a glyph").runs("""
            addComponent(0, 0, 0, 0) = NO_SUCH_GLYPH
            addGlyph(false, 0); addGlyph(true, 0); addGlyph(true, 0)
            addComponent(-1, -2, 0, 0) = NO_SUCH_GLYPH
            addComponent(-1, 0, 0, 0) = NO_SUCH_GLYPH
            addComponent(3, 0, 0, 0) = NO_SUCH_GLYPH
            addComponent(2147483647, 0, 0, 0) = NO_SUCH_GLYPH
            addComponent(-2147483648, 0, 0, 0) = NO_SUCH_GLYPH
            addComponent(1, 0, 0, 0) = 0
            addComponent(2, 0, 0, 0) = 0
            """);
        Boundary.says(11, "`child`: an earlier glyph").runs("""
            addGlyph(true, 0)
            addComponent(0, 0, 0, 0) = NO_SUCH_GLYPH
            addGlyph(true, 0); addGlyph(true, 0); addGlyph(true, 0)
            addComponent(2, 2, 0, 0) = NO_SUCH_GLYPH
            addComponent(2, 3, 0, 0) = NO_SUCH_GLYPH
            addComponent(2, -1, 0, 0) = NO_SUCH_GLYPH
            addComponent(2, 0, 0, 0) = 0
            addComponent(2, 1, 0, 0) = 1
            """);
        Boundary.says(11, "NO_SUCH_GLYPH, also if child is not less than glyph, or negative").runs("""
            addGlyph(false, 0); addGlyph(true, 0); addGlyph(false, 0)
            addComponent(1, -1, 0, 0) = NO_SUCH_GLYPH
            addComponent(1, -2147483648, 0, 0) = NO_SUCH_GLYPH
            addComponent(1, 1, 0, 0) = NO_SUCH_GLYPH
            addComponent(1, 2, 0, 0) = NO_SUCH_GLYPH
            addComponent(1, 3, 0, 0) = NO_SUCH_GLYPH
            addComponent(1, 2147483647, 0, 0) = NO_SUCH_GLYPH
            addComponent(3, 1, 0, 0) = NO_SUCH_GLYPH
            addComponent(0, 0, 0, 0) = NO_SUCH_GLYPH
            addComponent(1, 0, 0, 0) = 0
            """);
        Boundary.says(11, "`x`: -4000 to 4000").runs("""
            addGlyph(false, 0); addGlyph(true, 0)
            addComponent(1, 0, -4001, 0) = BAD_VALUE
            addComponent(1, 0, -2147483648, 0) = BAD_VALUE
            addComponent(1, 0, 4001, 0) = BAD_VALUE
            addComponent(1, 0, 2147483647, 0) = BAD_VALUE
            addComponent(1, 0, -4000, 0) = 0
            addComponent(1, 0, 4000, 0) = 1
            position(1, 0, 0) = -4000; position(1, 1, 0) = 4000
            """);
        Boundary.says(11, "`y`: -4000 to 4000").runs("""
            addGlyph(false, 0); addGlyph(true, 0)
            addComponent(1, 0, 0, -4001) = BAD_VALUE
            addComponent(1, 0, 0, -2147483648) = BAD_VALUE
            addComponent(1, 0, 0, 4001) = BAD_VALUE
            addComponent(1, 0, 0, 2147483647) = BAD_VALUE
            addComponent(1, 0, 0, -4000) = 0
            addComponent(1, 0, 0, 4000) = 1
            position(1, 0, 1) = -4000; position(1, 1, 1) = 4000
            """);
    }

    private static void addComponentRefused() {
        Boundary.says(11, "NOT_POSSIBLE if the glyph is simple, or a component of another one").runs("""
            addGlyph(false, 0); addGlyph(false, 0); addGlyph(true, 0); addGlyph(true, 0)
            addComponent(1, 0, 0, 0) = NOT_POSSIBLE
            addComponent(2, 0, 0, 0) = 0
            addComponent(3, 0, 0, 0) = 0
            addComponent(2, 1, 0, 0) = 1
            addComponent(3, 2, 0, 0) = 1
            addComponent(2, 1, 0, 0) = NOT_POSSIBLE
            glyphValue(2, 1) = 2
            addComponent(3, 2, 0, 0) = 2
            """);
        // A glyph that undo() has taken out of the only glyph that it was a component of.
        Boundary.says(11, "NOT_POSSIBLE if the glyph is simple, or a component of another one").runs("""
            addGlyph(false, 0); addGlyph(true, 0); addGlyph(true, 0)
            fold(2) = 0
            addComponent(2, 1, 0, 0) = 0
            addComponent(1, 0, 0, 0) = NOT_POSSIBLE
            undo() = 2
            addComponent(1, 0, 0, 0) = 0
            """);
        Boundary.says(11, "Returns the number of the component; NO_SUCH_GLYPH, also if child is not less than glyph, or"
                + " negative; BAD_VALUE; NOT_POSSIBLE if the glyph is simple, or a component of another one; FULL if it"
                + " has 4 components, or its outline would have more than 96 points.").runs("""
            addGlyph(false, 0); addGlyph(false, 0); addGlyph(true, 0); addGlyph(true, 0)
            addComponent(4, 0, 4001, 0) = NO_SUCH_GLYPH
            addComponent(1, 1, 4001, 0) = NO_SUCH_GLYPH
            addComponent(1, 0, 4001, 0) = BAD_VALUE
            addComponent(1, 0, 4000, 0) = NOT_POSSIBLE
            addComponent(2, 0, 0, 0) = 0; addComponent(2, 0, 0, 0) = 1
            addComponent(2, 0, 0, 0) = 2; addComponent(2, 0, 0, 0) = 3
            addComponent(2, 2, 0, 4001) = NO_SUCH_GLYPH
            addComponent(2, 1, 0, 4001) = BAD_VALUE
            addComponent(2, 1, 0, 4000) = FULL
            addComponent(3, 2, 0, 0) = 0
            addComponent(2, -1, 0, 4001) = NO_SUCH_GLYPH
            addComponent(2, 1, 0, 4001) = BAD_VALUE
            addComponent(2, 1, 0, 4000) = NOT_POSSIBLE
            """);
    }

    private static void addComponentFull() {
        String words = "FULL if it has 4 components, or its outline would have more than 96 points";
        Boundary.says(11, words).runs("""
            addGlyph(false, 0); addGlyph(true, 0)
            addComponent(1, 0, 1, 0) = 0; addComponent(1, 0, 2, 0) = 1; addComponent(1, 0, 3, 0) = 2
            addComponent(1, 0, 4, 0) = 3
            addComponent(1, 0, 5, 0) = FULL
            glyphValue(1, 1) = 4; position(1, 3, 0) = 4; position(1, 4, 0) = NO_VALUE
            """);
        // Glyph 3 has 72 points; with glyph 0 it is 96, with glyph 1 one more would be 97.
        String parts = "addGlyph(false, 0); addGlyph(false, 0); addGlyph(false, 0); addGlyph(true, 0)\n"
                + "addGlyph(true, 0); addGlyph(true, 0)\n" + points(0, 24) + points(1, 1) + """
            addComponent(3, 0, 0, 0) = 0; addComponent(3, 0, 0, 0) = 1; addComponent(3, 0, 0, 0) = 2
            """;
        Boundary.says(11, words).runs(parts + """
            addComponent(4, 3, 0, 0) = 0
            addComponent(4, 0, 9, 0) = 1
            glyphValue(4, 3) = 96
            addComponent(4, 1, 0, 0) = FULL
            addComponent(4, 0, 0, 0) = FULL
            glyphValue(4, 1) = 2; glyphValue(4, 3) = 96
            outline(4, 95, 0) = 32; outline(4, 96, 0) = NO_VALUE
            addComponent(4, 2, 0, 0) = 2
            addComponent(4, 1, 0, 0) = FULL
            addComponent(4, 2, 0, 0) = 3
            addComponent(4, 2, 0, 0) = FULL
            """);
        Boundary.says(11, words).runs(parts + """
            addComponent(4, 3, 0, 0) = 0
            addComponent(4, 1, 0, 0) = 1
            glyphValue(4, 3) = 73
            addComponent(4, 0, 0, 0) = FULL
            addComponent(4, 3, 0, 0) = FULL
            addComponent(4, 1, 0, 0) = 2
            glyphValue(4, 3) = 74
            addComponent(5, 4, 0, 0) = 0
            addComponent(5, 0, 0, 0) = FULL
            addComponent(5, 4, 0, 0) = FULL
            addComponent(5, 1, 0, 0) = 1
            """);
    }

    private static void untouched() {
        Boundary.says(10, "No tuple touches it.").runs("""
            addGlyph(false, 0); addPoint(0, 0, 0, true)
            addTuple(0) = 0; addTuple(0) = 1
            merge(0) = 1
            touchedCount(0, 0) = 2
            touch(0, 0, 0, 5, 6) = 0
            addPoint(0, 9, 9, true) = 1
            touchedCount(0, 0) = 2
            delta(0, 0, 1, false) = 0; delta(0, 0, 1, true) = 0
            addPoint(0, 9, 9, false) = 2
            touch(0, 0, 2, 7, 8) = 1
            delta(0, 0, 1, false) = 7
            undo() = 0
            addPoint(0, 9, 9, true) = 1; addPoint(0, 9, 9, false) = 2
            touch(0, 0, 0, 1, 1) = 1
            touchedCount(0, 0) = 1
            delta(0, 0, 2, true) = 0
            release(0, 0, 2) = 0
            """);
        Boundary.says(11, "No tuple touches it.").runs("""
            addGlyph(false, 0); addGlyph(true, 0)
            addTuple(1) = 0; addTuple(1) = 1
            touch(1, 0, -1, 5, 0)
            merge(1) = 1
            touchedCount(1, 0) = 1
            addComponent(1, 0, 9, 9) = 0
            touchedCount(1, 0) = 1
            delta(1, 0, 0, false) = 0
            touch(1, 0, 0, 7, 8) = 1
            undo() = 1
            addComponent(1, 0, 9, 9) = 0
            delta(1, 0, 0, false) = 0
            release(1, 0, 0) = 0
            """);
    }

    private static void glyphValue() {
        Boundary.says(12, "Returns a value of a glyph.", "`what`: 0 for whether it is composite (1, otherwise 0), 1 for the"
                + " number of points or components, 2 for the number of contours of its outline, 3 for the number of"
                + " points of its outline, 4 for the number of tuples, 5 for the base advance").runs("""
            addGlyph(false, 77); addGlyph(true, 78); addGlyph(false, 79); addGlyph(true, 80)
            addPoint(0, 1, 1, true); addPoint(0, 2, 2, false); addPoint(0, 3, 4, true)
            addComponent(1, 0, 0, 0); addComponent(1, 0, 0, 0)
            addTuple(1)
            """).asks("""
            glyphValue(0, -1) = BAD_VALUE
            glyphValue(0, 0) = 0; glyphValue(0, 1) = 3; glyphValue(0, 2) = 2
            glyphValue(0, 3) = 3; glyphValue(0, 4) = 0; glyphValue(0, 5) = 77
            glyphValue(0, 6) = BAD_VALUE
            glyphValue(1, 0) = 1; glyphValue(1, 1) = 2; glyphValue(1, 2) = 4
            glyphValue(1, 3) = 6; glyphValue(1, 4) = 1; glyphValue(1, 5) = 78
            glyphValue(2, 0) = 0; glyphValue(2, 1) = 0; glyphValue(2, 2) = 0
            glyphValue(2, 3) = 0; glyphValue(2, 4) = 0; glyphValue(2, 5) = 79
            glyphValue(3, 0) = 1; glyphValue(3, 1) = 0; glyphValue(3, 2) = 0; glyphValue(3, 3) = 0
            glyphValue(3, 2147483647) = BAD_VALUE
            glyphValue(3, -2147483648) = BAD_VALUE
            """);
        Boundary.says(12, "`glyph`: number of a glyph").runs("""
            glyphValue(0, 5) = NO_SUCH_GLYPH
            addGlyph(false, 1); addGlyph(false, 2); addGlyph(false, 3); addGlyph(false, 4); addGlyph(false, 5)
            addGlyph(false, 6)
            glyphValue(-1, 5) = NO_SUCH_GLYPH
            glyphValue(0, 5) = 1; glyphValue(5, 5) = 6
            glyphValue(6, 5) = NO_SUCH_GLYPH
            glyphValue(2147483647, 5) = NO_SUCH_GLYPH
            glyphValue(-2147483648, 5) = NO_SUCH_GLYPH
            """);
        Boundary.says(12, "Returns the value; NO_SUCH_GLYPH; BAD_VALUE.").runs("""
            addGlyph(false, 1)
            glyphValue(1, 6) = NO_SUCH_GLYPH
            glyphValue(0, 6) = BAD_VALUE
            glyphValue(0, 5) = 1
            """);
    }

    private static void descriptionOfGlyphs() {
        Boundary.says(0, "There are up to 6 glyphs, numbered from 0 in order of addition, each with an advance.").runs("""
            addGlyph(false, 4001) = BAD_VALUE
            addGlyph(false, 9) = 0; addGlyph(true, 8) = 1; addGlyph(false, 7) = 2
            addGlyph(true, 6) = 3; addGlyph(false, 5) = 4; addGlyph(true, 4) = 5
            addGlyph(false, 3) = FULL
            position(0, -1, 0) = 9; position(1, -1, 0) = 8; position(5, -1, 0) = 4
            position(6, -1, 0) = NO_VALUE
            """);
        Boundary.says(0, "A simple glyph has up to 24 points, numbered from 0, in contours: a contour consists of points"
                + " with consecutive numbers and is closed (its last point is followed by its first one).").runs("""
            addGlyph(false, 0)
            addPoint(0, 5, 5, true) = 0; addPoint(0, 9, 5, false) = 1; addPoint(0, 9, 8, false) = 2
            area(0, 0) = 12
            addPoint(0, 100, 100, true) = 3
            area(0, 0) = 12; area(0, 1) = 0
            addPoint(0, 100, 101, false) = 4; addPoint(0, 101, 101, false) = 5
            area(0, 0) = 12; area(0, 1) = -1
            """).anew().runs("addGlyph(false, 0)\n" + points(0, 24) + "addPoint(0, 0, 0, false) = FULL");
        Boundary.says(0, "A composite glyph has up to 4 components, numbered from 0; each is an earlier glyph with an"
                + " offset (x, y).").runs("""
            addGlyph(false, 0); addGlyph(true, 0); addGlyph(true, 0)
            addComponent(2, 2, 0, 0) = NO_SUCH_GLYPH
            addComponent(2, 1, 1, -1) = 0; addComponent(2, 0, 2, -2) = 1
            addComponent(2, 1, 3, -3) = 2; addComponent(2, 1, 4, -4) = 3
            addComponent(2, 1, 5, -5) = FULL
            position(2, 0, 0) = 1; position(2, 3, 1) = -4
            """);
    }
}
