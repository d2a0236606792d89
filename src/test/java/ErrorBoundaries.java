/** What the description says of errors and of the constants, and how many calls an object takes. */
final class ErrorBoundaries {
    /** A font with something of everything: axis 1 is pinned, glyph 2 is made of 0 and 1, and an operation is remembered. */
    private static final String FONT = """
        addAxis(0, 500, 1000) = 0; addAxis(-16384, 0, 16384) = 1
        addMapPair(0, 8192, 4096); setUser(0, 750) = 4096; setCoordinate(1, -8192)
        addInstance() = 0
        setCoordinate(1, 4096); pin(1, true)
        addGlyph(false, 500) = 0; addGlyph(true, 600) = 1; addGlyph(true, 700) = 2; addGlyph(false, 0) = 3
        addPoint(0, 0, 0, true); addPoint(0, 100, 0, false); addPoint(0, 100, 200, false); addPoint(0, 7, 7, true)
        addComponent(1, 0, 10, 20); addComponent(2, 0, 1, 2); addComponent(2, 1, 3, 4)
        addTuple(0); addTuple(0); addTuple(2)
        setRegion(0, 0, 0, 0, 16384, 16384); touch(0, 0, 0, 0, 0); touch(0, 0, 1, 50, -9); touch(0, 0, -1, 60, 0)
        setRegion(0, 1, 1, 0, 8192, 16384); touch(0, 1, 2, -3, -3); touch(2, 0, 1, 5, 6)
        prune(2) = 0; merge(0) = 0
        type('a'); type('1'); type('0') = 3
        """;

    private ErrorBoundaries() {
    }

    static void run() {
        constants();
        refusedCallsChangeNothing();
        questionsChangeNothing();
        orderOfErrors();
        longErrors();
        none();
        lastCall();
    }

    private static void constants() {
        Boundary.says(0, "Errors are reported by the constants below.").runs("""
            addAxis(1, 1, 1) = -1000005; pin(0, true) = -1000001; addTuple(0) = -1000002; undo() = -1000008
            position(0, 0, 0) = -9223372036854775808
            """);
        Boundary.says(0, "`NO_SUCH_AXIS = -1000001`: There is no axis with this number.").runs("""
            normalize(0, 0) = -1000001; setUser(0, 0) = -1000001; setCoordinate(0, 0) = -1000001
            pin(0, true) = -1000001; axisValue(0, 0) = -1000001; addMapPair(0, 1, 1) = -1000001
            addGlyph(false, 0); addTuple(0)
            setRegion(0, 0, 0, 0, 0, 0) = -1000001; widest(0, 0) = -1000001
            """);
        Boundary.says(0, "`NO_SUCH_GLYPH = -1000002`: There is no glyph with this number.").runs("""
            addPoint(0, 0, 0, true) = -1000002; addComponent(0, 0, 0, 0) = -1000002; glyphValue(0, 0) = -1000002
            addTuple(0) = -1000002; setRegion(0, 0, 0, 0, 0, 0) = -1000002; touch(0, 0, 0, 0, 0) = -1000002
            release(0, 0, 0) = -1000002; delta(0, 0, 0, true) = -1000002; touchedCount(0, 0) = -1000002
            scalar(0, 0) = -1000002; flips(0) = -1000002; widest(0, 0) = -1000002; merge(0) = -1000002
            compact(0, 0) = -1000002; fold(0) = -1000002; prune(0) = -1000002
            """);
        Boundary.says(0, "`NO_SUCH_TUPLE = -1000003`: The glyph has no such tuple.").runs("""
            addGlyph(false, 0); addPoint(0, 0, 0, true); addAxis(0, 0, 1)
            setRegion(0, 0, 0, 0, 0, 0) = -1000003; touch(0, 0, 0, 0, 0) = -1000003; release(0, 0, 0) = -1000003
            delta(0, 0, 0, true) = -1000003; touchedCount(0, 0) = -1000003; scalar(0, 0) = -1000003
            compact(0, 0) = -1000003
            """);
        Boundary.says(0, "`NO_SUCH_POINT = -1000004`: The glyph has no such point or component.").runs("""
            addGlyph(false, 0); addGlyph(true, 0); addTuple(0); addTuple(1)
            touch(0, 0, 0, 0, 0) = -1000004; release(0, 0, 0) = -1000004; delta(0, 0, 0, true) = -1000004
            touch(1, 0, 0, 0, 0) = -1000004; release(1, 0, 0) = -1000004; delta(1, 0, 0, true) = -1000004
            """);
        Boundary.says(0, "`BAD_VALUE = -1000005`: Another argument is out of range.").runs("""
            addAxis(0, 0, 0) = -1000005; addGlyph(false, 4001) = -1000005; count(4) = -1000005
            applyInstance(0) = -1000005
            addAxis(0, 0, 1); addGlyph(false, 0); addGlyph(true, 0); addTuple(0)
            addMapPair(0, 0, 0) = -1000005; setCoordinate(0, 16385) = -1000005; axisValue(0, 6) = -1000005
            addPoint(0, 4001, 0, true) = -1000005; addComponent(1, 0, 0, 4001) = -1000005; glyphValue(0, 6) = -1000005
            setRegion(0, 0, 0, 1, 0, 0) = -1000005; touch(0, 0, -1, 0, 1) = -1000005
            """);
        Boundary.says(0, "`FULL = -1000006`: There is no more room.").runs("""
            addAxis(0, 0, 1); addAxis(0, 0, 1); addAxis(0, 0, 1); addAxis(0, 0, 1)
            addAxis(0, 0, 1) = -1000006
            """);
        Boundary.says(0, "`NOT_POSSIBLE = -1000007`: The axis is pinned, the glyph is of the other kind, or it is a"
                + " component of another one.").runs("""
            addAxis(0, 0, 1); pin(0, true); addGlyph(false, 0); addGlyph(true, 0); addGlyph(true, 0)
            addGlyph(false, 0)
            setUser(0, 0) = -1000007; setCoordinate(0, 0) = -1000007
            addPoint(1, 0, 0, true) = -1000007; addComponent(3, 0, 0, 0) = -1000007
            addComponent(1, 0, 0, 0); addComponent(2, 1, 0, 0)
            addPoint(0, 0, 0, true) = -1000007; addComponent(1, 0, 0, 0) = -1000007
            """);
        Boundary.says(0, "`NONE = -1000008`: There is no such thing; not an error.").runs("""
            undo() = -1000008; nearestInstance() = -1000008
            """);
        Boundary.says(0, "`NO_VALUE = Long.MIN_VALUE`: The error value of methods that return a long.").runs("""
            position(0, 0, 0) = -9223372036854775808; outline(0, 0, 0) = -9223372036854775808
            box(0, 0) = -9223372036854775808; area(0, -1) = -9223372036854775808
            """);
    }

    private static void refusedCallsChangeNothing() {
        Boundary.says(0, "A call that reports an error changes nothing.").runs(FONT + """
            addAxis(5, 5, 5) = BAD_VALUE; addAxis(-100001, 0, 1) = BAD_VALUE
            addMapPair(2, 1, 1) = NO_SUCH_AXIS; addMapPair(0, 8192, -1) = BAD_VALUE; addMapPair(0, 8193, 4095) = BAD_VALUE
            setUser(2, 0) = NO_SUCH_AXIS; setUser(1, 0) = NOT_POSSIBLE
            setCoordinate(2, 0) = NO_SUCH_AXIS; setCoordinate(0, 16385) = BAD_VALUE; setCoordinate(1, 0) = NOT_POSSIBLE
            pin(2, true) = NO_SUCH_AXIS; pin(-1, false) = NO_SUCH_AXIS
            addGlyph(false, -1) = BAD_VALUE
            addPoint(4, 0, 0, true) = NO_SUCH_GLYPH; addPoint(3, 4001, 0, true) = BAD_VALUE
            addPoint(1, 0, 0, true) = NOT_POSSIBLE; addPoint(0, 0, 0, true) = NOT_POSSIBLE
            addComponent(2, 2, 0, 0) = NO_SUCH_GLYPH; addComponent(2, 0, 0, -4001) = BAD_VALUE
            addComponent(3, 0, 0, 0) = NOT_POSSIBLE; addComponent(1, 0, 0, 0) = NOT_POSSIBLE
            addTuple(4) = NO_SUCH_GLYPH
            setRegion(0, 2, 0, 0, 1, 2) = NO_SUCH_TUPLE; setRegion(0, 0, 2, 0, 1, 2) = NO_SUCH_AXIS
            setRegion(0, 0, 0, -1, 1, 2) = BAD_VALUE; setRegion(0, 0, 0, 0, 1, 16385) = BAD_VALUE
            touch(0, 2, 0, 1, 1) = NO_SUCH_TUPLE; touch(0, 0, 4, 1, 1) = NO_SUCH_POINT
            touch(0, 0, 1, 2001, 1) = BAD_VALUE; touch(0, 0, 1, 1, 2001) = BAD_VALUE; touch(0, 0, -1, 1, 1) = BAD_VALUE
            release(0, 2, 0) = NO_SUCH_TUPLE; release(0, 0, 4) = NO_SUCH_POINT; release(4, 0, 0) = NO_SUCH_GLYPH
            merge(4) = NO_SUCH_GLYPH; compact(4, 0) = NO_SUCH_GLYPH; compact(0, 2) = NO_SUCH_TUPLE
            fold(-1) = NO_SUCH_GLYPH; prune(4) = NO_SUCH_GLYPH
            applyInstance(1) = BAD_VALUE; applyInstance(-1) = BAD_VALUE
            type(';'); readLocation() = -104; type('b'); readLocation() = -104
            """);
        Boundary.says(0, "A call that reports an error changes nothing.").runs(FONT + """
            addAxis(0, 0, 1); addAxis(0, 0, 1); addAxis(0, 0, 1) = FULL
            addMapPair(0, 1, 0); addMapPair(0, 2, 0); addMapPair(0, 3, 0); addMapPair(0, 4, 0) = 8
            addMapPair(0, 5, 1) = FULL
            addGlyph(true, 0); addGlyph(true, 0); addGlyph(true, 9) = FULL
            addComponent(2, 0, 0, 0); addComponent(2, 0, 0, 0) = 3; addComponent(2, 0, 0, 0) = FULL
            addTuple(0); addTuple(0); addTuple(0) = 4; addTuple(0) = FULL
            addInstance(); addInstance(); addInstance(); addInstance(); addInstance() = 5
            addInstance() = FULL
            """);
    }

    private static void questionsChangeNothing() {
        Boundary.says(0, "A call that reports an error changes nothing.").runs(FONT).asks("""
            normalize(0, 750) = 4096; normalize(2, 0) = NO_SUCH_AXIS; axisValue(1, 5) = 1; axisValue(0, 6) = BAD_VALUE
            glyphValue(2, 3) = 8; glyphValue(4, 0) = NO_SUCH_GLYPH; glyphValue(0, 6) = BAD_VALUE
            delta(0, 0, 2, false) = 50; delta(0, 0, 4, false) = NO_SUCH_POINT
            touchedCount(0, 0) = 3; scalar(0, 0) = 67108864; scalar(0, 1) = 134217728
            share(0, 0) = 0.25; share(0, 9) = -1.0
            position(0, 2, 2) = 111; position(0, 4, 0) = NO_VALUE
            outline(2, 4, 1) = 29; outline(2, 8, 0) = NO_VALUE; box(2, 3) = 229; box(3, 0) = NO_VALUE
            middle(2, true) = 113.5; middle(3, true) = 0.0; area(2, 0) = 22736; area(2, 4) = NO_VALUE
            flips(2) = 0; flips(9) = NO_SUCH_GLYPH; widest(0, 0) = 16384; widest(0, 2) = NO_SUCH_AXIS
            nearestInstance() = 0; count(3) = 2; count(4) = BAD_VALUE
            """);
    }

    private static void orderOfErrors() {
        Boundary.says(0, "Where several errors can apply, the order of the @return line is the order of the checks.")
                .runs(FONT + """
            addMapPair(2, 0, 0) = NO_SUCH_AXIS; setCoordinate(2, 16385) = NO_SUCH_AXIS
            setCoordinate(1, 16385) = BAD_VALUE; axisValue(2, 6) = NO_SUCH_AXIS
            addPoint(4, 4001, 0, true) = NO_SUCH_GLYPH; addPoint(0, 4001, 0, true) = BAD_VALUE
            addComponent(1, 1, 4001, 0) = NO_SUCH_GLYPH; addComponent(1, 0, 4001, 0) = BAD_VALUE
            glyphValue(4, 6) = NO_SUCH_GLYPH
            setRegion(4, 9, 9, 1, 0, 0) = NO_SUCH_GLYPH; setRegion(0, 9, 9, 1, 0, 0) = NO_SUCH_TUPLE
            setRegion(0, 0, 9, 1, 0, 0) = NO_SUCH_AXIS; setRegion(0, 0, 1, 1, 0, 0) = BAD_VALUE
            touch(4, 9, 9, 2001, 0) = NO_SUCH_GLYPH; touch(0, 9, 9, 2001, 0) = NO_SUCH_TUPLE
            touch(0, 0, 9, 2001, 0) = NO_SUCH_POINT; touch(0, 0, 0, 2001, 0) = BAD_VALUE
            release(4, 9, 9) = NO_SUCH_GLYPH; release(0, 9, 9) = NO_SUCH_TUPLE; release(0, 0, 9) = NO_SUCH_POINT
            delta(4, 9, 9, true) = NO_SUCH_GLYPH; delta(0, 9, 9, true) = NO_SUCH_TUPLE
            delta(0, 0, 9, true) = NO_SUCH_POINT
            touchedCount(4, 9) = NO_SUCH_GLYPH; scalar(4, 9) = NO_SUCH_GLYPH; compact(4, 9) = NO_SUCH_GLYPH
            widest(4, 9) = NO_SUCH_GLYPH; widest(0, 9) = NO_SUCH_AXIS
            """);
    }

    private static void longErrors() {
        Boundary.says(0, "Methods that return a long return NO_VALUE for every error.").runs(FONT + """
            position(4, 0, 0) = NO_VALUE; position(0, 4, 0) = NO_VALUE; position(0, 0, 4) = NO_VALUE
            outline(4, 0, 0) = NO_VALUE; outline(0, 4, 0) = NO_VALUE; outline(0, 0, 3) = NO_VALUE
            box(4, 0) = NO_VALUE; box(0, 4) = NO_VALUE; box(3, 0) = NO_VALUE
            area(4, 0) = NO_VALUE; area(0, 2) = NO_VALUE; area(0, -2) = NO_VALUE
            """);
    }

    private static void none() {
        Boundary.says(0, "NONE is returned only if no error applies.").runs(FONT + """
            applyInstance(1) = BAD_VALUE; compact(0, 2) = NO_SUCH_TUPLE
            nearestInstance() = 0
            undo() = 0; undo() = 2
            undo() = NONE
            count(4) = BAD_VALUE
            """);
    }

    /** 512 calls, the last of which is still answered. */
    private static void lastCall() {
        Boundary test = Boundary.says(0, "An object is used for at most 512 calls after it has been made; what later calls"
                + " answer is free.").runs("""
            addAxis(-16384, 0, 16384); addGlyph(false, 0); addPoint(0, 0, 0, true); addTuple(0)
            setRegion(0, 0, 0, 0, 16384, 16384); touch(0, 0, 0, 2000, -2000)
            """);
        for (int call = 7; call <= 510; call++) {
            int coordinate = 32 * (call - 7);
            test.runs(call % 2 == 0 ? "position(0, 0, 2) = " + rounded(2000L * (coordinate - 32))
                    : "setCoordinate(0, " + coordinate + ")");
        }
        test.runs("prune(0) = 0; count(3) = 1");
    }

    private static long rounded(long sixteenThousands) {
        return Math.floorDiv(2 * sixteenThousands + 16384, 2 * 16384);
    }
}
