/** Each boundary that the promises 1 to 8 name, and what the description says of axes and rounding. */
final class AxisBoundaries {
    /** An axis whose user values are its coordinates. */
    private static final String PLAIN_AXIS = "addAxis(-16384, 0, 16384)\n";

    private AxisBoundaries() {
    }

    static void run() {
        newObject();
        addAxisRanges();
        addAxisFull();
        addMapPairRanges();
        addMapPairOrderOfTo();
        addMapPairChanges();
        addMapPairFull();
        normalizeAnyInt();
        normalizeParts();
        rounding();
        setUser();
        setCoordinate();
        pin();
        axisValue();
    }

    private static void newObject() {
        Boundary.says(1, "Creates a font without axes, glyphs and instances, with an empty text.").runs("""
            count(0) = 0; count(1) = 0; count(2) = 0; count(3) = 0
            axisValue(0, 0) = NO_SUCH_AXIS
            glyphValue(0, 0) = NO_SUCH_GLYPH
            applyInstance(0) = BAD_VALUE
            nearestInstance() = NONE
            undo() = NONE
            readLocation() = -100
            clearText() = 0
            addAxis(0, 0, 1) = 0
            addGlyph(false, 0) = 0
            addInstance() = 0
            type('a') = 1
            """).anew().runs("""
            count(0) = 0; count(1) = 0; count(2) = 0; count(3) = 0
            clearText() = 0
            """);
    }

    private static void addAxisRanges() {
        Boundary.says(2, "Adds an axis.").runs("""
            addAxis(-3, 4, 50) = 0
            count(0) = 1
            axisValue(0, 1) = -3; axisValue(0, 2) = 4; axisValue(0, 3) = 50
            """);
        Boundary.says(2, "`least`: -100000 to 100000").runs("""
            addAxis(-100001, 0, 1) = BAD_VALUE
            addAxis(-2147483648, 0, 1) = BAD_VALUE
            addAxis(-100000, 0, 1) = 0
            axisValue(0, 1) = -100000
            addAxis(100001, 100001, 100001) = BAD_VALUE
            addAxis(100001, 100001, 100002) = BAD_VALUE
            addAxis(2147483647, 2147483647, 2147483647) = BAD_VALUE
            addAxis(100000, 100000, 100000) = BAD_VALUE
            addAxis(99999, 99999, 100000) = 1
            axisValue(1, 1) = 99999
            """);
        Boundary.says(2, "`standard`: the default, least to 100000").runs("""
            addAxis(5, 4, 10) = BAD_VALUE
            addAxis(5, -2147483648, 10) = BAD_VALUE
            addAxis(5, 5, 10) = 0
            axisValue(0, 2) = 5
            addAxis(5, 100001, 100001) = BAD_VALUE
            addAxis(5, 2147483647, 2147483647) = BAD_VALUE
            addAxis(5, 100000, 100000) = 1
            axisValue(1, 2) = 100000
            addAxis(-5, -6, 10) = BAD_VALUE
            addAxis(-5, -5, 10) = 2
            """);
        Boundary.says(2, "`greatest`: standard to 100000, but greater than least").runs("""
            addAxis(5, 7, 6) = BAD_VALUE
            addAxis(5, 7, -2147483648) = BAD_VALUE
            addAxis(5, 7, 7) = 0
            axisValue(0, 3) = 7
            addAxis(5, 7, 100001) = BAD_VALUE
            addAxis(5, 7, 2147483647) = BAD_VALUE
            addAxis(5, 7, 100000) = 1
            addAxis(5, 5, 5) = BAD_VALUE
            addAxis(-100000, -100000, -100000) = BAD_VALUE
            addAxis(0, 0, 0) = BAD_VALUE
            addAxis(5, 5, 6) = 2
            addAxis(-100000, -100000, -99999) = 3
            """);
    }

    private static void addAxisFull() {
        Boundary.says(2, "FULL if there are 4 axes").runs("""
            addAxis(0, 0, 1) = 0; addAxis(0, 0, 2) = 1; addAxis(0, 0, 3) = 2
            addAxis(0, 0, 4) = 3
            addAxis(0, 0, 5) = FULL
            addAxis(-100000, 0, 100000) = FULL
            count(0) = 4
            axisValue(3, 3) = 4
            axisValue(4, 3) = NO_SUCH_AXIS
            """);
        Boundary.says(2, "Returns the number of the axis; BAD_VALUE; FULL if there are 4 axes.").runs("""
            addAxis(3, 2, 1) = BAD_VALUE
            addAxis(0, 0, 1) = 0; addAxis(0, 0, 2) = 1; addAxis(0, 0, 3) = 2; addAxis(0, 0, 4) = 3
            addAxis(3, 2, 1) = BAD_VALUE
            addAxis(-100001, 0, 1) = BAD_VALUE
            addAxis(1, 2, 3) = FULL
            """);
        Boundary.says(0, "There are up to 4 axes, numbered from 0 in order of addition.").runs("""
            addAxis(0, 0, 1) = 0
            addAxis(9, 9, 9) = BAD_VALUE
            addAxis(0, 0, 2) = 1; addAxis(0, 0, 3) = 2; addAxis(0, 0, 4) = 3
            axisValue(0, 3) = 1; axisValue(1, 3) = 2; axisValue(2, 3) = 3; axisValue(3, 3) = 4
            """);
        Boundary.says(0, "An axis has a least, a default and a greatest user value, a segment map, and a coordinate"
                + " from -16384 to 16384, 0 at first.").runs("""
            addAxis(7, 8, 9) = 0
            axisValue(0, 0) = 0
            setUser(0, 2147483647) = 16384; axisValue(0, 0) = 16384
            setUser(0, -2147483648) = -16384; axisValue(0, 0) = -16384
            addAxis(-9, -9, -8) = 1
            axisValue(1, 0) = 0
            """);
        Boundary.says(0, "The segment map consists of pairs (from, to), at first (-16384, -16384), (0, 0) and"
                + " (16384, 16384).").runs(PLAIN_AXIS + """
            axisValue(0, 4) = 3
            normalize(0, -16384) = -16384; normalize(0, -16383) = -16383; normalize(0, -1) = -1
            normalize(0, 0) = 0
            normalize(0, 1) = 1; normalize(0, 16383) = 16383; normalize(0, 16384) = 16384
            """);
    }

    private static void addMapPairRanges() {
        Boundary.says(3, "`axis`: number of an axis").runs("""
            addMapPair(0, 1, 1) = NO_SUCH_AXIS
            addAxis(0, 0, 1); addAxis(0, 0, 1)
            addMapPair(-1, 1, 1) = NO_SUCH_AXIS
            addMapPair(2, 1, 1) = NO_SUCH_AXIS
            addMapPair(-2147483648, 1, 1) = NO_SUCH_AXIS
            addMapPair(2147483647, 1, 1) = NO_SUCH_AXIS
            addMapPair(0, 1, 1) = 4
            addMapPair(1, 1, 1) = 4
            """);
        Boundary.says(3, "`from`: -16383 to 16383, not 0").runs(PLAIN_AXIS + """
            addMapPair(0, -16384, -16384) = BAD_VALUE
            addMapPair(0, -16385, -16384) = BAD_VALUE
            addMapPair(0, -2147483648, -16384) = BAD_VALUE
            addMapPair(0, -16383, -16384) = 4
            addMapPair(0, 16384, 16384) = BAD_VALUE
            addMapPair(0, 16385, 16384) = BAD_VALUE
            addMapPair(0, 2147483647, 16384) = BAD_VALUE
            addMapPair(0, 16383, 16384) = 5
            addMapPair(0, 0, 0) = BAD_VALUE
            addMapPair(0, 0, 1) = BAD_VALUE
            addMapPair(0, -1, 0) = 6
            addMapPair(0, 1, 0) = 7
            """);
    }

    private static void addMapPairOrderOfTo() {
        String words = "`to`: -16384 to 16384, not less than the to of the pair before it,"
                + " and not greater than that of the pair behind it";
        Boundary.says(3, words).runs(PLAIN_AXIS + """
            addMapPair(0, -9000, -16385) = BAD_VALUE
            addMapPair(0, -9000, -2147483648) = BAD_VALUE
            addMapPair(0, -9000, 1) = BAD_VALUE
            addMapPair(0, -9000, 2147483647) = BAD_VALUE
            addMapPair(0, -9000, -16384) = 4
            addMapPair(0, -9000, 0) = 4
            addMapPair(0, 9000, 16385) = BAD_VALUE
            addMapPair(0, 9000, 2147483647) = BAD_VALUE
            addMapPair(0, 9000, -1) = BAD_VALUE
            addMapPair(0, 9000, -2147483648) = BAD_VALUE
            addMapPair(0, 9000, 16384) = 5
            addMapPair(0, 9000, 0) = 5
            """);
        // A new pair between (1000, 2000) and (3000, 4000), and one that is changed there.
        Boundary.says(3, words).runs(PLAIN_AXIS + """
            addMapPair(0, 1000, 2000) = 4; addMapPair(0, 3000, 4000) = 5
            addMapPair(0, 2000, 1999) = BAD_VALUE
            addMapPair(0, 2000, 4001) = BAD_VALUE
            axisValue(0, 4) = 5
            addMapPair(0, 2000, 2000) = 6
            addMapPair(0, 2000, 4000) = 6
            addMapPair(0, 2000, 1999) = BAD_VALUE
            addMapPair(0, 2000, 4001) = BAD_VALUE
            normalize(0, 2000) = 4000
            addMapPair(0, 1000, 4001) = BAD_VALUE
            addMapPair(0, 1000, 4000) = 6
            addMapPair(0, 3000, 3999) = BAD_VALUE
            addMapPair(0, 3000, 16384) = 6
            addMapPair(0, 999, 4001) = BAD_VALUE
            addMapPair(0, 999, 4000) = 7
            addMapPair(0, 3001, 16383) = BAD_VALUE
            addMapPair(0, 3001, 16384) = 8
            """);
    }

    private static void addMapPairChanges() {
        Boundary.says(3, "Adds a pair to the segment map of an axis, or changes the pair with this from.")
                .runs(PLAIN_AXIS + """
            addMapPair(0, 8192, 4096) = 4
            normalize(0, 8192) = 4096
            addMapPair(0, 8192, 10000) = 4
            normalize(0, 8192) = 10000
            addMapPair(0, 8192, 10000) = 4
            addMapPair(0, 8191, 9000) = 5
            addMapPair(0, 8193, 11000) = 6
            normalize(0, 8191) = 9000; normalize(0, 8192) = 10000; normalize(0, 8193) = 11000
            addAxis(-16384, 0, 16384) = 1
            axisValue(1, 4) = 3
            normalize(1, 8192) = 8192
            """);
    }

    private static void addMapPairFull() {
        String seven = PLAIN_AXIS + """
            addMapPair(0, -8192, -8192) = 4; addMapPair(0, -4096, -4096) = 5
            addMapPair(0, 4096, 4096) = 6; addMapPair(0, 8192, 8192) = 7
            """;
        Boundary.says(3, "FULL if there are 8 pairs and none with this from").runs(seven + """
            addMapPair(0, 12288, 12288) = 8
            addMapPair(0, 12289, 12289) = FULL
            addMapPair(0, -16383, -16384) = FULL
            addMapPair(0, 16383, 16384) = FULL
            addMapPair(0, 1, 0) = FULL
            addMapPair(0, 12288, 16384) = 8
            addMapPair(0, -8192, -16384) = 8
            addMapPair(0, 4096, 0) = 8
            addMapPair(0, 12287, 12288) = FULL
            normalize(0, 12288) = 16384; normalize(0, -8192) = -16384; normalize(0, 4096) = 0
            addAxis(-1, 0, 1) = 1
            addMapPair(1, 12289, 12289) = 4
            """);
        Boundary.says(3, "Returns the number of pairs then; NO_SUCH_AXIS; BAD_VALUE;"
                + " FULL if there are 8 pairs and none with this from.").runs(seven + """
            addMapPair(1, 0, 99999) = NO_SUCH_AXIS
            addMapPair(0, 0, 99999) = BAD_VALUE
            addMapPair(0, 8193, 8191) = BAD_VALUE
            addMapPair(0, -12288, -12288) = 8
            addMapPair(1, 0, 99999) = NO_SUCH_AXIS
            addMapPair(0, 0, 0) = BAD_VALUE
            addMapPair(0, 8193, 8191) = BAD_VALUE
            addMapPair(0, 8193, 16385) = BAD_VALUE
            addMapPair(0, 8193, 8192) = FULL
            addMapPair(0, 8192, 4095) = BAD_VALUE
            addMapPair(0, 8192, 4096) = 8
            """);
    }

    private static void normalizeAnyInt() {
        Boundary.says(4, "`axis`: number of an axis").runs("""
            normalize(0, 0) = NO_SUCH_AXIS
            addAxis(0, 0, 1); addAxis(0, 0, 1)
            normalize(-1, 0) = NO_SUCH_AXIS
            normalize(2, 0) = NO_SUCH_AXIS
            normalize(2147483647, 0) = NO_SUCH_AXIS
            normalize(-2147483648, 0) = NO_SUCH_AXIS
            """).asks("normalize(0, 1) = 16384; normalize(1, 0) = 0");
        Boundary.says(4, "`value`: a user value, any int").runs("addAxis(-100000, 0, 100000)\n").asks("""
            normalize(0, -2147483648) = -16384
            normalize(0, 2147483647) = 16384
            normalize(0, -100001) = -16384; normalize(0, -100000) = -16384
            normalize(0, 100000) = 16384; normalize(0, 100001) = 16384
            normalize(0, 0) = 0
            """);
        Boundary.says(4, "Returns the coordinate for it; NO_SUCH_AXIS.").runs("addAxis(0, 10, 20)\n").asks("""
            normalize(1, 15) = NO_SUCH_AXIS
            normalize(0, 15) = 8192
            axisValue(0, 0) = 0
            """);
    }

    private static void normalizeParts() {
        Boundary.says(0, "The coordinate for a user value v: v is first limited to the range from the least to the"
                + " greatest value; then n is 0 if v is the default, minus (default - v) * 16384 / (default - least),"
                + " rounded before the sign is applied, if v is less, and (v - default) * 16384 / (greatest - default),"
                + " rounded, if it is greater.").runs("""
            addAxis(10, 30, 40) = 0
            normalize(0, 9) = -16384; normalize(0, 10) = -16384; normalize(0, 11) = -15565
            normalize(0, 29) = -819; normalize(0, 30) = 0; normalize(0, 31) = 1638
            normalize(0, 39) = 14746; normalize(0, 40) = 16384; normalize(0, 41) = 16384
            addAxis(7, 7, 9) = 1
            normalize(1, 6) = 0; normalize(1, 7) = 0; normalize(1, 8) = 8192; normalize(1, 10) = 16384
            addAxis(7, 9, 9) = 2
            normalize(2, 6) = -16384; normalize(2, 8) = -8192; normalize(2, 9) = 0; normalize(2, 10) = 0
            addAxis(-32768, 0, 32768) = 3
            normalize(3, -1) = -1; normalize(3, 1) = 1; normalize(3, -3) = -2; normalize(3, 3) = 2
            normalize(3, -2) = -1; normalize(3, 2) = 1; normalize(3, -32767) = -16384; normalize(3, 32767) = 16384
            """);
        Boundary.says(0, "With the pairs (f0, t0) and (f1, t1) that are next to each other in the order of from and for"
                + " which f0 is at most n and n less than f1, the coordinate is t0 + (n - f0) * (t1 - t0) / (f1 - f0),"
                + " the quotient rounded; for n = 16384 it is 16384.").runs(PLAIN_AXIS + """
            addMapPair(0, 8192, 4096) = 4; addMapPair(0, 8194, 5096) = 5
            normalize(0, 8191) = 4096; normalize(0, 8192) = 4096; normalize(0, 8193) = 4596
            normalize(0, 8194) = 5096; normalize(0, 8195) = 5097
            addMapPair(0, 16383, 5096) = 6
            normalize(0, 16382) = 5096; normalize(0, 16383) = 5096; normalize(0, 16384) = 16384
            addMapPair(0, -16383, 0) = 7
            normalize(0, -16384) = -16384; normalize(0, -16383) = 0; normalize(0, -1) = 0
            addAxis(-16384, 0, 16384) = 1
            addMapPair(1, 16383, 16384) = 4; addMapPair(1, 1, 16384) = 5
            normalize(1, 0) = 0; normalize(1, 1) = 16384; normalize(1, 16383) = 16384; normalize(1, 16384) = 16384
            """);
    }

    private static void rounding() {
        Boundary.says(0, "\"Rounded\" means to the nearest integer, a half towards positive infinity.")
                .runs(PLAIN_AXIS + """
            addMapPair(0, 2, 3) = 4; addMapPair(0, 4, 4) = 5; addMapPair(0, 7, 8) = 6; addMapPair(0, -4, -3) = 7
            normalize(0, 1) = 2; normalize(0, 3) = 4
            normalize(0, 5) = 5; normalize(0, 6) = 7
            normalize(0, -1) = -1; normalize(0, -2) = -1; normalize(0, -3) = -2
            addAxis(0, 0, 3) = 1
            normalize(1, 1) = 5461; normalize(1, 2) = 10923
            addAxis(-3, 0, 0) = 2
            normalize(2, -1) = -5461; normalize(2, -2) = -10923
            addGlyph(false, 10) = 0
            addPoint(0, 0, 0, true) = 0
            addTuple(0) = 0
            setRegion(0, 0, 1, 0, 16384, 16384) = 1
            setCoordinate(1, 8192) = 0
            touch(0, 0, 0, 1, -1) = 1
            position(0, 0, 2) = 1; position(0, 0, 3) = 0
            touch(0, 0, 0, 3, -3) = 0
            position(0, 0, 2) = 2; position(0, 0, 3) = -1
            setCoordinate(1, 8191) = 8192
            position(0, 0, 2) = 1; position(0, 0, 3) = -1
            setCoordinate(1, 8193) = 8191
            position(0, 0, 2) = 2; position(0, 0, 3) = -2
            """);
    }

    private static void setUser() {
        Boundary.says(5, "Sets the coordinate of an axis by a user value.").runs("""
            addAxis(0, 500, 1000) = 0; addAxis(0, 500, 1000) = 1
            setUser(0, 750) = 8192
            axisValue(0, 0) = 8192; axisValue(1, 0) = 0
            addMapPair(0, 8192, 1) = 4
            axisValue(0, 0) = 8192
            setUser(0, 750) = 1
            axisValue(0, 0) = 1
            """);
        Boundary.says(5, "`axis`: number of an axis").runs("""
            setUser(0, 0) = NO_SUCH_AXIS
            addAxis(0, 0, 1)
            setUser(-1, 1) = NO_SUCH_AXIS
            setUser(1, 1) = NO_SUCH_AXIS
            setUser(2147483647, 1) = NO_SUCH_AXIS
            setUser(-2147483648, 1) = NO_SUCH_AXIS
            setUser(0, 1) = 16384
            """);
        Boundary.says(5, "`value`: any int").runs("""
            addAxis(-100000, 0, 100000)
            setUser(0, 2147483647) = 16384; axisValue(0, 0) = 16384
            setUser(0, -2147483648) = -16384; axisValue(0, 0) = -16384
            setUser(0, 100000) = 16384; setUser(0, 100001) = 16384
            setUser(0, -100000) = -16384; setUser(0, -100001) = -16384
            setUser(0, 99996) = 16383; setUser(0, -99996) = -16383
            """);
        Boundary.says(5, "NOT_POSSIBLE if the axis is pinned").runs("""
            addAxis(0, 500, 1000) = 0; addAxis(0, 500, 1000) = 1
            setUser(0, 750) = 8192
            pin(0, true) = 1
            setUser(0, 1000) = NOT_POSSIBLE
            setUser(0, 750) = NOT_POSSIBLE
            axisValue(0, 0) = 8192
            setUser(1, 1000) = 16384
            pin(0, false) = 1
            setUser(0, 1000) = 16384
            """);
        Boundary.says(5, "Returns the coordinate; NO_SUCH_AXIS; NOT_POSSIBLE if the axis is pinned.").runs("""
            addAxis(0, 500, 1000); pin(0, true)
            setUser(1, 0) = NO_SUCH_AXIS
            setUser(0, 0) = NOT_POSSIBLE
            """);
    }

    private static void setCoordinate() {
        Boundary.says(6, "Sets the coordinate of an axis.").runs("""
            addAxis(0, 500, 1000) = 0; addAxis(0, 500, 1000) = 1
            setCoordinate(1, 77) = 0
            axisValue(1, 0) = 77; axisValue(0, 0) = 0
            """);
        Boundary.says(6, "`axis`: number of an axis").runs("""
            setCoordinate(0, 0) = NO_SUCH_AXIS
            addAxis(0, 0, 1)
            setCoordinate(-1, 1) = NO_SUCH_AXIS
            setCoordinate(1, 1) = NO_SUCH_AXIS
            setCoordinate(2147483647, 1) = NO_SUCH_AXIS
            setCoordinate(-2147483648, 1) = NO_SUCH_AXIS
            setCoordinate(0, 1) = 0
            """);
        Boundary.says(6, "`coordinate`: -16384 to 16384").runs("""
            addAxis(0, 0, 1)
            setCoordinate(0, 16385) = BAD_VALUE
            setCoordinate(0, 2147483647) = BAD_VALUE
            setCoordinate(0, 16384) = 0
            setCoordinate(0, -16385) = BAD_VALUE
            setCoordinate(0, -2147483648) = BAD_VALUE
            setCoordinate(0, -16384) = 16384
            axisValue(0, 0) = -16384
            """);
        Boundary.says(6, "NOT_POSSIBLE if the axis is pinned").runs("""
            addAxis(0, 0, 1); addAxis(0, 0, 1); setCoordinate(0, 5); pin(0, true)
            setCoordinate(0, 6) = NOT_POSSIBLE
            setCoordinate(0, 5) = NOT_POSSIBLE
            setCoordinate(1, 6) = 0
            pin(0, false) = 1
            setCoordinate(0, 6) = 5
            """);
        Boundary.says(6, "Returns the previous coordinate; NO_SUCH_AXIS; BAD_VALUE;"
                + " NOT_POSSIBLE if the axis is pinned.").runs("""
            addAxis(0, 0, 1)
            setCoordinate(0, 3) = 0; setCoordinate(0, 3) = 3; setCoordinate(0, -4) = 3
            pin(0, true)
            setCoordinate(1, 16385) = NO_SUCH_AXIS
            setCoordinate(0, 16385) = BAD_VALUE
            setCoordinate(0, 16384) = NOT_POSSIBLE
            """);
    }

    private static void pin() {
        Boundary.says(7, "Pins an axis, or releases it.", "`pinned`: true for pinning it").runs("""
            addAxis(0, 0, 1); addAxis(0, 0, 1)
            axisValue(0, 5) = 0
            pin(0, true)
            axisValue(0, 5) = 1; axisValue(1, 5) = 0
            pin(0, false)
            axisValue(0, 5) = 0
            """);
        Boundary.says(7, "`axis`: number of an axis").runs("""
            pin(0, true) = NO_SUCH_AXIS
            pin(0, false) = NO_SUCH_AXIS
            addAxis(0, 0, 1)
            pin(-1, true) = NO_SUCH_AXIS
            pin(1, true) = NO_SUCH_AXIS
            pin(2147483647, true) = NO_SUCH_AXIS
            pin(-2147483648, false) = NO_SUCH_AXIS
            pin(0, true) = 1
            """);
        Boundary.says(7, "Returns 1 if this changes it, otherwise 0",
                "Returns 1 if this changes it, otherwise 0; NO_SUCH_AXIS.").runs("""
            addAxis(0, 0, 1)
            pin(1, true) = NO_SUCH_AXIS
            """).asks("pin(0, false) = 0").runs("pin(0, true) = 1").asks("pin(0, true) = 0").runs("""
            pin(0, false) = 1; pin(0, false) = 0
            """);
        Boundary.says(0, "An axis can be pinned; then its coordinate cannot be changed.").runs("""
            addAxis(0, 500, 1000); addAxis(0, 500, 1000)
            setCoordinate(0, 100); setCoordinate(1, 200); addInstance() = 0
            setCoordinate(0, 300); setCoordinate(1, 400); addInstance() = 1
            type('a'); type('0') = 2
            pin(0, true) = 1
            setUser(0, 0) = NOT_POSSIBLE
            setCoordinate(0, 0) = NOT_POSSIBLE
            readLocation() = -100
            applyInstance(0) = 1
            axisValue(0, 0) = 300; axisValue(1, 0) = 200
            pin(0, false) = 1
            applyInstance(0) = 1
            axisValue(0, 0) = 100
            readLocation() = 1
            axisValue(0, 0) = -16384
            """);
    }

    private static void axisValue() {
        Boundary.says(8, "Returns a value of an axis.", "`what`: 0 for the coordinate, 1 for the least, 2 for the default,"
                + " 3 for the greatest user value, 4 for the number of pairs in its map, 5 for whether it is pinned"
                + " (1, otherwise 0)").runs("addAxis(-3, 4, 50); setCoordinate(0, -9); addMapPair(0, 7, 7)").asks("""
            axisValue(0, -1) = BAD_VALUE
            axisValue(0, 0) = -9; axisValue(0, 1) = -3; axisValue(0, 2) = 4; axisValue(0, 3) = 50; axisValue(0, 4) = 4
            axisValue(0, 5) = 0
            axisValue(0, 6) = BAD_VALUE
            axisValue(0, 2147483647) = BAD_VALUE
            axisValue(0, -2147483648) = BAD_VALUE
            """).runs("pin(0, true); axisValue(0, 5) = 1");
        Boundary.says(8, "`axis`: number of an axis").runs("""
            axisValue(0, 0) = NO_SUCH_AXIS
            addAxis(0, 0, 1); addAxis(0, 0, 2); addAxis(0, 0, 3); addAxis(0, 0, 4)
            axisValue(-1, 3) = NO_SUCH_AXIS
            axisValue(0, 3) = 1; axisValue(3, 3) = 4
            axisValue(4, 3) = NO_SUCH_AXIS
            axisValue(2147483647, 3) = NO_SUCH_AXIS
            axisValue(-2147483648, 3) = NO_SUCH_AXIS
            """);
        Boundary.says(8, "Returns the value; NO_SUCH_AXIS; BAD_VALUE.").runs("""
            addAxis(0, 0, 1)
            axisValue(1, 6) = NO_SUCH_AXIS
            axisValue(0, 6) = BAD_VALUE
            axisValue(0, 3) = 1
            """);
    }
}
