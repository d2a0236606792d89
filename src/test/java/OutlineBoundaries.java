/** Each boundary that the promises 21 to 27 name, and what the description says of positions and outlines. */
final class OutlineBoundaries {
    /**
     * An axis, a triangle as glyph 0, and a tuple for the upper half of the axis that moves point 2 by (4, -60) and
     * the advance by -30; glyph 1 is simple and empty, glyph 2 composite and empty.
     */
    private static final String TRIANGLE = """
        addAxis(-16384, 0, 16384)
        addGlyph(false, 500) = 0; addGlyph(false, 0) = 1; addGlyph(true, 0) = 2
        addPoint(0, 0, 0, true); addPoint(0, 10, 0, false); addPoint(0, 10, 20, false)
        addTuple(0); setRegion(0, 0, 0, 0, 16384, 16384)
        touch(0, 0, 0, 0, 0); touch(0, 0, 1, 0, 0); touch(0, 0, 2, 4, -60); touch(0, 0, -1, -30, 0)
        """;
    private static final String A_GLYPH = "`glyph`: number of a glyph";

    private OutlineBoundaries() {
    }

    static void run() {
        numbers("position", 21, ", 0, 2", "NO_VALUE", "0");
        numbers("outline", 22, ", 0, 0", "NO_VALUE", "0");
        numbers("box", 23, ", 0", "NO_VALUE", "0");
        numbers("middle", 24, ", false", "0.0", "5.0");
        numbers("area", 25, ", -1", "NO_VALUE", "200");
        numbers("flips", 26, "", "NO_SUCH_GLYPH", "0");
        numbers("widest", 27, ", 0", "NO_SUCH_GLYPH", "-16384");
        position();
        positionIsRounded();
        outline();
        outlineOfComposites();
        box();
        middle();
        area();
        flips();
        widest();
        widestOfSeveral();
    }

    private static void numbers(String name, int promise, String others, String none, String due) {
        String behind = others + ") = " + none + "\n";
        Boundary.says(promise, A_GLYPH).runs(promise == 27 ? "addAxis(0, 0, 1)" : "").asks(name + "(0" + behind)
                .anew().runs(TRIANGLE)
                .asks(name + "(-1" + behind).asks(name + "(3" + behind)
                .asks(name + "(2147483647" + behind).asks(name + "(-2147483648" + behind)
                .asks(name + "(0" + others + ") = " + due);
    }

    private static void position() {
        Boundary.says(21, "Returns a position.", "`what`: 0 for x and 1 for y of the base position, 2 for x and 3 for y at"
                + " the present location (y is 0 for the advance)").runs(TRIANGLE + "setCoordinate(0, 8192)").asks("""
            position(0, 2, -1) = NO_VALUE
            position(0, 2, 0) = 10; position(0, 2, 1) = 20; position(0, 2, 2) = 12; position(0, 2, 3) = -10
            position(0, 2, 4) = NO_VALUE
            position(0, 2, 2147483647) = NO_VALUE
            position(0, 2, -2147483648) = NO_VALUE
            position(0, -1, -1) = NO_VALUE
            position(0, -1, 0) = 500; position(0, -1, 1) = 0; position(0, -1, 2) = 485; position(0, -1, 3) = 0
            position(0, -1, 4) = NO_VALUE
            """);
        Boundary.says(21, "`point`: a point or component of this glyph, or -1 for the advance").runs(TRIANGLE + """
            position(0, -2, 0) = NO_VALUE
            position(0, -1, 0) = 500; position(0, 0, 0) = 0; position(0, 2, 0) = 10
            position(0, 3, 0) = NO_VALUE
            position(0, 2147483647, 0) = NO_VALUE
            position(0, -2147483648, 0) = NO_VALUE
            position(1, 0, 0) = NO_VALUE
            position(1, -1, 0) = 0
            position(2, 0, 0) = NO_VALUE
            position(2, -1, 0) = 0
            addComponent(2, 0, 7, 8) = 0
            position(2, 0, 1) = 8
            position(2, 1, 0) = NO_VALUE
            """);
        Boundary.says(21, "NO_VALUE if there is no such glyph or point, or what is out of range",
                "Returns the number; NO_VALUE if there is no such glyph or point, or what is out of range.")
                .runs(TRIANGLE + """
            position(3, 0, 0) = NO_VALUE; position(0, 3, 0) = NO_VALUE; position(0, 0, 4) = NO_VALUE
            position(3, 3, 4) = NO_VALUE
            position(0, 0, 0) = 0
            """);
    }

    private static void positionIsRounded() {
        String words = "The position of a point (the offset of a component, the advance) at the present location is its"
                + " base position plus the sum over all tuples of scalar * delta, divided by 268435456 and rounded, for"
                + " each direction.";
        // Each tuple moves by half a unit: the sum is rounded, not its parts.
        String halves = """
            addAxis(-16384, 0, 16384); addGlyph(false, 100); addPoint(0, -7, 7, true)
            addTuple(0); addTuple(0); setRegion(0, 0, 0, 0, 16384, 16384); setRegion(0, 1, 0, 0, 16384, 16384)
            setCoordinate(0, 8192)
            """;
        Boundary.says(0, words).runs(halves + """
            touch(0, 0, 0, 1, -1); touch(0, 0, -1, 1, 0)
            position(0, 0, 2) = -6; position(0, 0, 3) = 7; position(0, -1, 2) = 101
            touch(0, 1, 0, 1, -1); touch(0, 1, -1, -2, 0)
            position(0, 0, 2) = -6; position(0, 0, 3) = 6; position(0, -1, 2) = 100
            touch(0, 1, 0, 2, -2); touch(0, 1, -1, -4, 0)
            position(0, 0, 2) = -5; position(0, 0, 3) = 6; position(0, -1, 2) = 99
            position(0, 0, 0) = -7; position(0, 0, 1) = 7; position(0, -1, 0) = 100
            setCoordinate(0, -1)
            position(0, 0, 2) = -7; position(0, 0, 3) = 7; position(0, -1, 2) = 100
            """);
        // Just below a half, a half, and just above it: the sums are 2^27 - 1, 2^27 and 2^27 + 1, and those below 0.
        Boundary.says(0, words).runs("""
            addAxis(-16384, 0, 16384); setCoordinate(0, 1)
            addGlyph(false, 100); addPoint(0, 0, 0, true); addTuple(0)
            setRegion(0, 0, 0, 0, 14, 14); touch(0, 0, 0, 7, -7); touch(0, 0, -1, 7, 0)
            position(0, 0, 2) = 0; position(0, 0, 3) = 0; position(0, -1, 2) = 100
            setRegion(0, 0, 0, 0, 2, 2); touch(0, 0, 0, 1, -1); touch(0, 0, -1, 1, 0)
            position(0, 0, 2) = 1; position(0, 0, 3) = 0; position(0, -1, 2) = 101
            setRegion(0, 0, 0, 0, 6, 6); touch(0, 0, 0, 3, -3); touch(0, 0, -1, 3, 0)
            position(0, 0, 2) = 1; position(0, 0, 3) = -1; position(0, -1, 2) = 101
            """);
        // The least scalar above 0 lifts 2^27 - 1 to a half.
        Boundary.says(0, words).runs("""
            addAxis(-16384, 0, 16384); addAxis(-16384, 0, 16384); setCoordinate(0, 1); setCoordinate(1, 1)
            addGlyph(false, 0); addPoint(0, 0, 0, true); addTuple(0); addTuple(0)
            setRegion(0, 0, 0, 0, 14, 14); touch(0, 0, 0, 7, 7)
            setRegion(0, 1, 0, 0, 16384, 16384); setRegion(0, 1, 1, 0, 16384, 16384); touch(0, 1, 0, 1, 0)
            scalar(0, 1) = 1
            position(0, 0, 2) = 1; position(0, 0, 3) = 0
            """);
        // The offset of a component, and an advance below 0 and above 4000.
        Boundary.says(0, words).runs("""
            addGlyph(false, 4000); addGlyph(true, 0); addComponent(1, 0, -4000, 4000)
            addTuple(0); addTuple(1); addTuple(1)
            touch(0, 0, -1, 2000, 0); touch(1, 0, -1, -2000, 0)
            touch(1, 0, 0, -2000, 2000); touch(1, 1, 0, -2000, 2000)
            position(0, -1, 2) = 6000; position(1, -1, 2) = -2000
            position(1, 0, 2) = -8000; position(1, 0, 3) = 8000
            """);
    }

    private static void outline() {
        Boundary.says(22, "Returns a point of the outline of a glyph at the present location.",
                "`what`: 0 for x, 1 for y, 2 for the number of its contour in the outline")
                .runs(TRIANGLE + "setCoordinate(0, 16384); addPoint(0, 5, 6, true)").asks("""
            outline(0, 2, -1) = NO_VALUE
            outline(0, 2, 0) = 14; outline(0, 2, 1) = -40; outline(0, 2, 2) = 0
            outline(0, 2, 3) = NO_VALUE
            outline(0, 2, 2147483647) = NO_VALUE
            outline(0, 2, -2147483648) = NO_VALUE
            outline(0, 3, 0) = 5; outline(0, 3, 1) = 6; outline(0, 3, 2) = 1
            """);
        Boundary.says(22, "`k`: number of the point in the outline, from 0").runs(TRIANGLE + """
            outline(0, -1, 0) = NO_VALUE
            outline(0, 0, 0) = 0; outline(0, 2, 0) = 10
            outline(0, 3, 0) = NO_VALUE
            outline(0, 2147483647, 0) = NO_VALUE
            outline(0, -2147483648, 0) = NO_VALUE
            outline(1, 0, 0) = NO_VALUE
            outline(2, 0, 0) = NO_VALUE
            addComponent(2, 0, 0, 0)
            outline(2, 2, 0) = 10
            outline(2, 3, 0) = NO_VALUE
            addComponent(2, 0, 0, 5)
            outline(2, 3, 1) = 5; outline(2, 5, 1) = 25
            outline(2, 6, 0) = NO_VALUE
            """);
        Boundary.says(22, "NO_VALUE if there is no such glyph or point, or what is out of range",
                "Returns the number; NO_VALUE if there is no such glyph or point, or what is out of range.")
                .runs(TRIANGLE + """
            outline(3, 0, 0) = NO_VALUE; outline(0, 3, 0) = NO_VALUE; outline(0, 0, 3) = NO_VALUE
            outline(3, 3, 3) = NO_VALUE
            outline(0, 0, 2) = 0
            """);
        Boundary.says(0, "The outline of a simple glyph consists of its points at these positions.").runs(TRIANGLE + """
            setCoordinate(0, 8192)
            glyphValue(0, 3) = 3
            outline(0, 0, 0) = 0; outline(0, 0, 1) = 0; outline(0, 1, 0) = 10; outline(0, 1, 1) = 0
            outline(0, 2, 0) = 12; outline(0, 2, 1) = -10
            """);
    }

    private static void outlineOfComposites() {
        Boundary.says(0, "The outline of a composite glyph consists of the outlines of its components, one after the other,"
                + " each moved by the offset of the component at the present location; it has at most 96 points.")
                .runs(TRIANGLE + """
            addComponent(2, 0, 1000, 2000); addComponent(2, 0, -1000, 0)
            addTuple(2); setRegion(2, 0, 0, 0, 16384, 16384); touch(2, 0, 1, 7, 9)
            addGlyph(true, 0) = 3
            addComponent(3, 0, 3, 4); addComponent(3, 2, 10, 20)
            setCoordinate(0, 8192)
            outline(2, 2, 0) = 1012; outline(2, 2, 1) = 1990
            outline(2, 3, 0) = -996; outline(2, 3, 1) = 5
            outline(3, 2, 0) = 15; outline(3, 2, 1) = -6
            outline(3, 3, 0) = 1010; outline(3, 3, 1) = 2020
            outline(3, 8, 0) = -974; outline(3, 8, 1) = 15
            glyphValue(3, 3) = 9
            """);
        // 96 points, six glyphs deep.
        Boundary.says(0, "The outline of a composite glyph consists of the outlines of its components, one after the other,"
                + " each moved by the offset of the component at the present location; it has at most 96 points.")
                .runs("addGlyph(false, 0); addGlyph(true, 0); addGlyph(true, 0); addGlyph(true, 0); addGlyph(true, 0)\n"
                + "addGlyph(true, 0)\n" + GlyphBoundaries.points(0, 24) + """
            addComponent(1, 0, 1, 0); addComponent(1, 0, 2, 0); addComponent(2, 1, 10, 0); addComponent(2, 1, 20, 0)
            addComponent(3, 2, 100, 0); addComponent(4, 3, 1000, 0); addComponent(5, 4, 4000, 4000)
            glyphValue(5, 3) = 96
            outline(5, 0, 0) = 5111; outline(5, 95, 0) = 5145; outline(5, 95, 1) = 4000; outline(5, 95, 2) = 3
            addComponent(5, 0, 0, 0) = FULL
            """);
        Boundary.says(0, "Contours stay contours.").runs(TRIANGLE + """
            addPoint(0, 5, 6, true); addPoint(1, 1, 1, true)
            addComponent(2, 1, 0, 0); addComponent(2, 0, 0, 0); addComponent(2, 1, 0, 0); addComponent(2, 0, 0, 0)
            addGlyph(true, 0) = 3
            addComponent(3, 0, 0, 0); addComponent(3, 2, 0, 0)
            outline(2, 0, 2) = 0; outline(2, 1, 2) = 1; outline(2, 3, 2) = 1; outline(2, 4, 2) = 2
            outline(2, 5, 2) = 3; outline(2, 6, 2) = 4; outline(2, 9, 2) = 5
            glyphValue(2, 2) = 6
            outline(3, 3, 2) = 1; outline(3, 4, 2) = 2; outline(3, 13, 2) = 7
            glyphValue(3, 2) = 8
            area(2, 1) = 200; area(2, 4) = 200; area(2, 0) = 0; area(2, 5) = 0; area(2, 6) = NO_VALUE
            """);
    }

    private static void box() {
        Boundary.says(23, "Returns a side of the smallest rectangle that contains all points of the outline of a glyph at"
                + " the present location.", "`what`: 0 for the least x, 1 for the greatest x, 2 for the least y, 3 for the"
                + " greatest y").runs(TRIANGLE + "setCoordinate(0, 16384)").asks("""
            box(0, -1) = NO_VALUE
            box(0, 0) = 0; box(0, 1) = 14; box(0, 2) = -40; box(0, 3) = 0
            box(0, 4) = NO_VALUE
            box(0, 2147483647) = NO_VALUE
            box(0, -2147483648) = NO_VALUE
            """);
        Boundary.says(23, "NO_VALUE if there is no such glyph, what is out of range, or the outline has no points",
                "Returns the number; NO_VALUE if there is no such glyph, what is out of range, or the outline has no"
                + " points.").runs(TRIANGLE + """
            box(3, 0) = NO_VALUE; box(3, 4) = NO_VALUE; box(2, 4) = NO_VALUE
            box(1, 0) = NO_VALUE; box(1, 1) = NO_VALUE; box(1, 2) = NO_VALUE; box(1, 3) = NO_VALUE
            box(2, 0) = NO_VALUE
            addComponent(2, 1, 0, 0)
            box(2, 0) = NO_VALUE; box(2, 3) = NO_VALUE
            addComponent(2, 0, 0, 0)
            box(2, 1) = 10
            addGlyph(false, 0) = 3
            addPoint(3, -7, 8, true) = 0
            box(3, 0) = -7; box(3, 1) = -7; box(3, 2) = 8; box(3, 3) = 8
            """);
    }

    private static void middle() {
        Boundary.says(24, "Returns the middle of the smallest rectangle of box() in one direction, as a float: the sum of"
                + " the least and the greatest coordinate, as a double, is divided by 2.0 and cast to float.",
                "`vertical`: true for y, false for x").runs("""
            addGlyph(false, 0); addPoint(0, 4, -3, true)
            middle(0, false) = 4.0; middle(0, true) = -3.0
            addPoint(0, 5, -4, true)
            """).asks("middle(0, false) = 4.5; middle(0, true) = -3.5").runs("""
            addPoint(0, -5, 4, true)
            middle(0, false) = 0.0; middle(0, true) = 0.0
            addPoint(0, 4000, -4000, true)
            middle(0, false) = 1997.5; middle(0, true) = -1998.0
            """);
        Boundary.says(24, "0.0f if there is no such glyph, or the outline has no points",
                "Returns the middle; 0.0f if there is no such glyph, or the outline has no points.").runs(TRIANGLE).asks("""
            middle(3, false) = 0.0; middle(-1, true) = 0.0
            middle(2, false) = 0.0; middle(2, true) = 0.0
            middle(1, false) = 0.0; middle(1, true) = 0.0
            middle(0, true) = 10.0
            """);
    }

    private static void area() {
        Boundary.says(25, "Returns twice the signed area of a contour of the outline at the present location: the sum of"
                + " x(p) * y(q) - x(q) * y(p) over its points p, with the next point q.").runs(TRIANGLE + """
            area(0, 0) = 200
            setCoordinate(0, 16384)
            area(0, 0) = -400
            addPoint(0, 100, 100, true); area(0, 1) = 0
            addPoint(0, 110, 100, false); area(0, 1) = 0
            addPoint(0, 100, 110, false); area(0, 1) = 100
            area(0, 0) = -400; area(0, -1) = -300
            """);
        Boundary.says(25, "`contour`: number of a contour of the outline, or -1 for the sum over all contours")
                .runs(TRIANGLE + "addPoint(0, 0, 0, true); addPoint(0, 0, 7, false); addPoint(0, 7, 7, false)").asks("""
            area(0, -2) = NO_VALUE
            area(0, -1) = 151; area(0, 0) = 200; area(0, 1) = -49
            area(0, 2) = NO_VALUE
            area(0, 2147483647) = NO_VALUE
            area(0, -2147483648) = NO_VALUE
            """);
        Boundary.says(25, "NO_VALUE if there is no such glyph or contour",
                "Returns the number; NO_VALUE if there is no such glyph or contour.").runs(TRIANGLE + """
            area(3, 0) = NO_VALUE; area(3, -1) = NO_VALUE; area(-1, -1) = NO_VALUE
            area(0, 1) = NO_VALUE
            area(2, 0) = NO_VALUE; area(1, 0) = NO_VALUE
            area(2, -2) = NO_VALUE
            area(2, -1) = 0; area(1, -1) = 0
            addComponent(2, 0, 0, 0)
            area(2, 0) = 200
            area(2, 1) = NO_VALUE
            """);
        Boundary.says(25, "Returns twice the signed area of a contour of the outline at the present location: the sum of"
                + " x(p) * y(q) - x(q) * y(p) over its points p, with the next point q.").runs("""
            addGlyph(false, 0)
            addPoint(0, -4000, -4000, true); addPoint(0, 4000, -4000, false); addPoint(0, 4000, 4000, false)
            addPoint(0, -4000, 4000, false)
            area(0, 0) = 128000000
            """);
    }

    /** A contour with twice the area height that is height + change at the present location. */
    private static void flip(int height, int change, int due) {
        Boundary.says(26, "Counts the contours of the outline of a glyph whose area at the present location has another"
                + " sign (above 0, 0, below 0) than it would have if all coordinates were 0.").runs("""
            addAxis(-16384, 0, 16384); addGlyph(false, 0); addPoint(0, 0, 0, true); addPoint(0, 1, 0, false)
            addTuple(0); setRegion(0, 0, 0, 0, 16384, 16384); touch(0, 0, 0, 0, 0); touch(0, 0, 1, 0, 0)
            """).runs("addPoint(0, 1, " + height + ", false); touch(0, 0, 2, 0, " + change + ")")
                .asks("flips(0) = 0").runs("setCoordinate(0, 16384)")
                .asks("flips(0) = " + due + "; area(0, 0) = " + (height + change))
                .runs("pin(0, true)").asks("flips(0) = " + due)
                .runs("addGlyph(true, 0); addComponent(1, 0, 0, 0); addComponent(1, 0, 50, 50)")
                .asks("flips(1) = " + 2 * due);
    }

    private static void flips() {
        int[][] rows = {{20, -19, 0}, {20, -20, 1}, {20, -21, 1}, {1, -1, 1}, {0, 1, 1}, {0, 0, 0}, {0, -1, 1},
            {-20, 19, 0}, {-20, 20, 1}, {-20, 21, 1}, {-1, 1, 1}, {1, -2, 1}, {-1, 2, 1}, {1, 1, 0}, {-1, -1, 0}};
        for (int[] row : rows) {
            flip(row[0], row[1], row[2]);
        }
        Boundary.says(26, "Returns the number of contours; NO_SUCH_GLYPH.").runs(TRIANGLE + """
            flips(3) = NO_SUCH_GLYPH; flips(-1) = NO_SUCH_GLYPH
            flips(0) = 0; flips(1) = 0; flips(2) = 0
            setCoordinate(0, 16384)
            flips(0) = 1
            addTuple(0); touch(0, 1, 0, 0, 0); touch(0, 1, 1, 0, 0); touch(0, 1, 2, 0, -21)
            area(0, 0) = -610
            flips(0) = 0
            """);
    }

    private static void widest() {
        String words = "Finds where on an axis a glyph is widest: of the coordinates -16384, -14336, -12288, ..., 16384"
                + " (steps of 2048), the one with which, in place of the coordinate of this axis (also if it is pinned),"
                + " the advance would be greatest, the first one of several.";
        String wide = "addAxis(-1, 0, 1); addAxis(-1, 0, 1); addGlyph(false, 0); addTuple(0); touch(0, 0, -1, 2000, 0)\n";
        Boundary.says(27, words).runs(wide).asks("widest(0, 0) = -16384").runs("""
            setRegion(0, 0, 0, 0, 16384, 16384)
            widest(0, 0) = 16384
            setRegion(0, 0, 0, 0, 16383, 16384)
            widest(0, 0) = 14336
            setRegion(0, 0, 0, 14337, 16384, 16384)
            widest(0, 0) = 16384
            setRegion(0, 0, 0, -16384, -16384, 0)
            widest(0, 0) = -16384
            setRegion(0, 0, 0, -16384, -16383, 0)
            widest(0, 0) = -14336
            setRegion(0, 0, 0, -16384, -14336, 0)
            widest(0, 0) = -14336
            setRegion(0, 0, 0, 1, 2047, 2047)
            widest(0, 0) = -16384
            setRegion(0, 0, 0, 1, 2048, 2048)
            widest(0, 0) = 2048
            touch(0, 0, -1, -2000, 0)
            widest(0, 0) = -16384
            setRegion(0, 0, 0, -16384, -16384, -12288)
            widest(0, 0) = -12288
            """);
        Boundary.says(27, words).runs(wide + """
            setRegion(0, 0, 0, 0, 16384, 16384); setRegion(0, 0, 1, 0, 8192, 16384)
            """).asks("widest(0, 0) = -16384; widest(0, 1) = -16384").runs("""
            setCoordinate(0, 5000); setCoordinate(1, -9)
            pin(0, true); pin(1, true)
            """).asks("widest(0, 0) = -16384; widest(0, 1) = 8192").runs("""
            axisValue(0, 0) = 5000; axisValue(1, 0) = -9
            """);
        Boundary.says(27, "`axis`: number of an axis").runs("addGlyph(false, 0)").runs("""
            widest(0, 0) = NO_SUCH_AXIS
            addAxis(0, 0, 1)
            widest(0, -1) = NO_SUCH_AXIS
            widest(0, 0) = -16384
            widest(0, 1) = NO_SUCH_AXIS
            widest(0, 2147483647) = NO_SUCH_AXIS
            widest(0, -2147483648) = NO_SUCH_AXIS
            """);
        Boundary.says(27, "Returns this coordinate; NO_SUCH_GLYPH; NO_SUCH_AXIS.").runs(TRIANGLE + """
            widest(3, 1) = NO_SUCH_GLYPH
            widest(0, 1) = NO_SUCH_AXIS
            widest(0, 0) = -16384
            """);
    }

    private static void widestOfSeveral() {
        // Between 0 and 8192 the advance is 1 from 4096 on, and 1 again behind the peak up to 12288.
        Boundary.says(27, "Finds where on an axis a glyph is widest: of the coordinates -16384, -14336, -12288, ..., 16384"
                + " (steps of 2048), the one with which, in place of the coordinate of this axis (also if it is pinned),"
                + " the advance would be greatest, the first one of several.").runs("""
            addAxis(-1, 0, 1); addGlyph(false, 0); addTuple(0); setRegion(0, 0, 0, 0, 8192, 16384)
            touch(0, 0, -1, 1, 0)
            widest(0, 0) = 4096
            setRegion(0, 0, 0, 0, 8193, 16384)
            widest(0, 0) = 6144
            addTuple(0); setRegion(0, 1, 0, -16384, -8192, 0); touch(0, 1, -1, 1, 0)
            widest(0, 0) = -12288
            touch(0, 0, -1, 2, 0)
            widest(0, 0) = 8192
            """);
    }
}
