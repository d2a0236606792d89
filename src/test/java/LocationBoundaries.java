/** Each boundary that the promises 33 to 39 name: instances, the text, locations read from it, and counts. */
final class LocationBoundaries {
    private static final String FOUR_AXES = """
        addAxis(-16384, 0, 16384) = 0; addAxis(-16384, 0, 16384) = 1
        addAxis(-16384, 0, 16384) = 2; addAxis(-16384, 0, 16384) = 3
        """;
    private static final String TWO_AXES = "addAxis(-16384, 0, 16384) = 0; addAxis(-16384, 0, 16384) = 1\n";
    private static final String GRAMMAR = "It has the following grammar, without blanks: location = item { \";\" item },"
            + " item = letter [ \"-\" ] digit { digit }.";
    private static final String LETTERS = "The letter tells the axis, a for axis 0, b for axis 1 and so on; the number, of"
            + " 1 to 6 digits, is a user value.";
    private static final String NUMBERS =
            "A number ends before the first character that is not a digit, or after 6 digits.";
    private static final String FAULTS = "The text is read from left to right; its fault is the index, from 0, of the first"
            + " character that is not allowed at its place, or its length if it ends too early.";
    private static final String ALLOWED = "A letter for which there is no axis, whose axis is pinned, or that occurred"
            + " before is not allowed.";

    private LocationBoundaries() {
    }

    static void run() {
        addInstance();
        applyInstance();
        nearestInstance();
        type();
        clearText();
        readLocation();
        grammar();
        lettersAndNumbers();
        faults();
        lettersNotAllowed();
        count();
    }

    private static void addInstance() {
        Boundary.says(33, "Keeps the present coordinates of all axes as an instance.").runs(TWO_AXES + """
            setCoordinate(0, -16384); setCoordinate(1, 16384); pin(1, true)
            addInstance() = 0
            pin(1, false); setCoordinate(0, 3); setCoordinate(1, 4)
            addInstance() = 1
            applyInstance(0) = 2
            axisValue(0, 0) = -16384; axisValue(1, 0) = 16384
            applyInstance(1) = 2
            axisValue(0, 0) = 3; axisValue(1, 0) = 4
            """).anew().runs("addInstance() = 0; applyInstance(0) = 0");
        Boundary.says(33, "Axes that are added later have the coordinate 0 in it.").runs("""
            addInstance() = 0
            addAxis(5, 6, 7)
            setCoordinate(0, 9)
            addInstance() = 1
            addAxis(5, 6, 7); addAxis(5, 6, 7); addAxis(5, 6, 7)
            setCoordinate(1, 8); setCoordinate(3, -8)
            applyInstance(1) = 2
            axisValue(0, 0) = 9; axisValue(1, 0) = 0; axisValue(3, 0) = 0
            applyInstance(0) = 1
            axisValue(0, 0) = 0
            """);
        String six = """
            addAxis(-1, 0, 1); addInstance() = 0; addInstance() = 1; addInstance() = 2; addInstance() = 3
            addInstance() = 4
            setCoordinate(0, 55); addInstance() = 5
            """;
        Boundary.says(33, "FULL if there are 6 instances",
                "Returns the number of the instance, from 0; FULL if there are 6 instances.").runs(six + """
            setCoordinate(0, 66)
            addInstance() = FULL
            addInstance() = FULL
            count(2) = 6
            applyInstance(6) = BAD_VALUE
            applyInstance(5) = 1
            axisValue(0, 0) = 55
            """);
    }

    private static void applyInstance() {
        Boundary.says(34, "Sets the coordinates of all axes that are not pinned to those of an instance.",
                "Returns how many coordinates change; BAD_VALUE if there is no such instance.").runs(FOUR_AXES + """
            addInstance() = 0
            setCoordinate(0, 1); setCoordinate(1, 2); setCoordinate(2, 3); setCoordinate(3, 4)
            addInstance() = 1
            """).asks("applyInstance(1) = 0").runs("""
            applyInstance(0) = 4
            applyInstance(1) = 4
            pin(0, true); pin(3, true)
            applyInstance(0) = 2
            axisValue(0, 0) = 1; axisValue(1, 0) = 0; axisValue(2, 0) = 0; axisValue(3, 0) = 4
            pin(1, true); pin(2, true)
            """).asks("applyInstance(1) = 0").runs("""
            pin(0, false); pin(1, false); pin(2, false); pin(3, false)
            setCoordinate(2, 3)
            applyInstance(1) = 1
            axisValue(1, 0) = 2
            """);
        Boundary.says(34, "`instance`: number of an instance", "BAD_VALUE if there is no such instance")
                .runs(TWO_AXES + """
            applyInstance(0) = BAD_VALUE
            setCoordinate(0, 7); addInstance() = 0; setCoordinate(0, 8); addInstance() = 1
            setCoordinate(0, 9)
            applyInstance(-1) = BAD_VALUE
            applyInstance(2) = BAD_VALUE
            applyInstance(6) = BAD_VALUE
            applyInstance(2147483647) = BAD_VALUE
            applyInstance(-2147483648) = BAD_VALUE
            axisValue(0, 0) = 9
            applyInstance(1) = 1; axisValue(0, 0) = 8
            applyInstance(0) = 1; axisValue(0, 0) = 7
            """);
    }

    private static void nearestInstance() {
        Boundary.says(35, "NONE if there are no instances",
                "Returns its number, the first one of several; NONE if there are no instances.").runs("""
            nearestInstance() = NONE
            """).runs(TWO_AXES + """
            nearestInstance() = NONE
            setCoordinate(0, 10); addInstance() = 0
            """).asks("nearestInstance() = 0").runs("""
            setCoordinate(0, -10); addInstance() = 1; addInstance() = 2
            nearestInstance() = 1
            setCoordinate(0, 0)
            nearestInstance() = 0
            setCoordinate(0, -1)
            nearestInstance() = 1
            setCoordinate(0, 1)
            nearestInstance() = 0
            """);
        Boundary.says(35, "Finds the instance that is nearest to the present location, by the sum of the absolute values of"
                + " the differences of the coordinates.").runs(FOUR_AXES + """
            setCoordinate(0, 100); addInstance() = 0
            setCoordinate(0, -51); setCoordinate(3, -50); addInstance() = 1
            setCoordinate(0, 0); setCoordinate(3, 0)
            nearestInstance() = 0
            setCoordinate(3, -1)
            nearestInstance() = 1
            pin(3, true)
            nearestInstance() = 1
            """);
        // The farthest that there is: 4 * 32768.
        Boundary.says(35, "Finds the instance that is nearest to the present location, by the sum of the absolute values of"
                + " the differences of the coordinates.").runs(FOUR_AXES + """
            setCoordinate(0, 16384); setCoordinate(1, 16384); setCoordinate(2, 16384); setCoordinate(3, 16384)
            addInstance() = 0
            setCoordinate(0, 16383)
            addInstance() = 1
            setCoordinate(0, -16384); setCoordinate(1, -16384); setCoordinate(2, -16384); setCoordinate(3, -16384)
            nearestInstance() = 1
            """);
    }

    private static String sixty(int code) {
        StringBuilder calls = new StringBuilder();
        for (int length = 1; length <= 60; length++) {
            calls.append("type(").append(code).append(") = ").append(length).append('\n');
        }
        return calls.toString();
    }

    private static void type() {
        Boundary.says(36, "Appends a character to the text.").runs("addAxis(0, 0, 9)\n" + """
            type('a') = 1; readLocation() = -101
            type('5') = 2; readLocation() = 1
            axisValue(0, 0) = 9102
            """);
        Boundary.says(36, "`character`: any character").runs("""
            type(0) = 1; type(10) = 2; type(32) = 3; type(127) = 4; type(128) = 5; type(255) = 6
            type(256) = 7; type(55296) = 8; type(65535) = 9
            clearText() = 9
            """);
        Boundary.says(36, "FULL if it has 60 characters",
                "Returns the length of the text then; FULL if it has 60 characters.").runs(sixty('a') + """
            type('b') = FULL
            type(0) = FULL
            clearText() = 60
            type('b') = 1
            """).anew().runs(sixty(65535) + """
            type(65535) = FULL
            clearText() = 60; clearText() = 0
            """);
    }

    private static void clearText() {
        Boundary.says(37, "Empties the text.", "Returns the length that it had.").asks("clearText() = 0").runs("""
            addAxis(0, 0, 9); type('a') = 1
            clearText() = 1
            clearText() = 0
            type('a'); type('5'); readLocation() = 1
            clearText() = 2
            readLocation() = -100
            type('a') = 1
            readLocation() = -101
            clearText() = 1
            """).runs(sixty('a') + "clearText() = 60; clearText() = 0; type('a') = 1");
    }

    /** The calls that type a text, and one that reads it. */
    private static String reads(String text, int due) {
        StringBuilder calls = new StringBuilder();
        for (int at = 0; at < text.length(); at++) {
            calls.append("type(").append((int) text.charAt(at)).append(") = ").append(at + 1).append('\n');
        }
        return calls.append("readLocation() = ").append(due).append('\n').toString();
    }

    /** Reads texts on new objects: rows of a text and what is due, a fault of f as -100 - f. */
    private static void rows(String words, String state, Object[][] rows) {
        Boundary test = Boundary.says(38, words);
        for (Object[] row : rows) {
            test.anew().runs(state + reads((String) row[0], (Integer) row[1]));
        }
    }

    private static void readLocation() {
        Boundary.says(38, "Reads a location from the text, which stays.").runs(TWO_AXES + reads("a5;b-6", 2) + """
            axisValue(0, 0) = 5; axisValue(1, 0) = -6
            setCoordinate(0, 0); setCoordinate(1, 0)
            readLocation() = 2
            axisValue(0, 0) = 5; axisValue(1, 0) = -6
            type('x') = 7
            readLocation() = -106
            readLocation() = -106
            clearText() = 7
            """);
        Boundary.says(38, "-100 minus the fault if there is one (nothing changes then)",
                "Returns the number of items; -100 minus the fault if there is one (nothing changes then).")
                .runs(FOUR_AXES + "setCoordinate(0, 11); setCoordinate(1, 22)\n" + reads("a5;b6;", -106) + """
            axisValue(0, 0) = 11; axisValue(1, 0) = 22
            type('c') = 7; readLocation() = -107
            type('-') = 8; readLocation() = -108
            type('7') = 9; readLocation() = 3
            axisValue(0, 0) = 5; axisValue(1, 0) = 6; axisValue(2, 0) = -7; axisValue(3, 0) = 0
            type(';'); type('d'); type('8'); readLocation() = 4
            axisValue(3, 0) = 8
            clearText() = 12
            """).runs(reads("b", -101)).runs("clearText() = 1").runs(reads("a1", 1)).runs("axisValue(1, 0) = 6");
        Boundary.says(38, "If there is no fault, the coordinates of these axes are set, as by setUser().").runs("""
            addAxis(100, 200, 400); addAxis(-8, 0, 8); addAxis(0, 0, 1)
            addMapPair(0, 8192, 1)
            setCoordinate(2, 77)
            """).runs(reads("b-9;a300", 2)).runs("""
            axisValue(0, 0) = 1; axisValue(1, 0) = -16384; axisValue(2, 0) = 77
            setCoordinate(1, 5); clearText()
            """).runs(reads("a99", 1)).runs("""
            axisValue(0, 0) = -16384; axisValue(1, 0) = 5
            clearText()
            """).runs(reads("a999999", 1)).runs("axisValue(0, 0) = 16384");
    }

    private static void grammar() {
        rows(GRAMMAR, TWO_AXES, new Object[][] {
            {"a5", 1}, {"b5", 1}, {"a-5", 1}, {"a5;b6", 2}, {"b-5;a-6", 2}, {"a0", 1}, {"a-0", 1}, {"a00", 1},
            {"", -100}, {" ", -100}, {" a5", -100}, {"a 5", -101}, {"a- 5", -102}, {"a5 ", -102}, {"a5 ;b6", -102},
            {"a5; b6", -103}, {"a5\t", -102}, {"5", -100}, {"-5", -100}, {";", -100}, {";a5", -100},
            {"a", -101}, {"a;", -101}, {"a;b5", -101}, {"ab5", -101}, {"a-", -102}, {"a-;b5", -102}, {"a--5", -102},
            {"a+5", -101}, {"a5-", -102}, {"a5-6", -102}, {"a5b6", -102}, {"a5,b6", -102}, {"a5:b6", -102},
            {"a5.0", -102}, {"a5;", -103}, {"a5;;b6", -103}, {"a5;-b6", -103}, {"a5;6", -103}, {"A5", -100}, {"B5", -100},
        });
    }

    private static void lettersAndNumbers() {
        rows(LETTERS, FOUR_AXES, new Object[][] {
            {"a1", 1}, {"d1", 1}, {"e1", -100}, {"`1", -100}, {"a1;b1;c1;d1", 4}, {"d1;c1;b1;a1", 4},
            {"a", -101}, {"a1", 1}, {"a123456", 1}, {"a1234567", -107}, {"a000001", 1}, {"a0000001", -107},
            {"a-", -102}, {"a-1", 1}, {"a-123456", 1}, {"a-1234567", -108},
            {"a/", -101}, {"a0", 1}, {"a9", 1}, {"a:", -101}, {"a1/", -102}, {"a1:", -102},
        });
        Boundary.says(38, LETTERS).runs("""
            addAxis(-100000, 0, 100000); addAxis(-16384, 0, 16384); addAxis(-1, 0, 1); addAxis(-16384, 0, 16384)
            """).runs(reads("d-16383;b000012;a050000;c999999", 4)).runs("""
            axisValue(0, 0) = 8192; axisValue(1, 0) = 12; axisValue(2, 0) = 16384; axisValue(3, 0) = -16383
            clearText() = 31
            """).runs(reads("a-100000;c-999999;d0", 3)).runs("""
            axisValue(0, 0) = -16384; axisValue(1, 0) = 12; axisValue(2, 0) = -16384; axisValue(3, 0) = 0
            """);
        rows(NUMBERS, TWO_AXES, new Object[][] {
            {"a12;b3", 2}, {"a123456;b3", 2}, {"a12345;b3", 2}, {"a1234567;b3", -107}, {"a123456", 1}, {"a123456b3", -107},
            {"a12b3", -103}, {"a12x", -103}, {"a12-", -103}, {"a123456-", -107}, {"a12 ", -103}, {"a1;b123456", 2},
            {"a1;b1234567", -110}, {"a-123456;b-123456", 2}, {"a-1234567;b1", -108},
            {"a1" + (char) ('2' + 256), -102}, {"a" + (char) 0x661, -101}, {"a1" + (char) 0, -102},
        });
    }

    private static void faults() {
        rows(FAULTS, TWO_AXES, new Object[][] {
            {"", -100}, {"x", -100}, {"a", -101}, {"ax", -101}, {"a-", -102}, {"a-x", -102}, {"a1;", -103}, {"a1;x", -103},
            {"a1;b", -104}, {"a1;bx", -104}, {"a1;b-", -105}, {"a1;b-x", -105}, {"a1x", -102}, {"a1;b1x", -105},
            {"a1;b1;", -106}, {"a1;b1;x", -106}, {"a1;b1;a", -106}, {"x;y;z", -100}, {"a1xb2", -102},
            {"a999999;b-999999;", -117}, {"a-999999;b-9999999", -117},
        });
        rows(FAULTS, FOUR_AXES, new Object[][] {
            {"a1;b1;c1;d1", 4}, {"a1;b1;c1;d1;", -112}, {"a1;b1;c1;d1;a1", -112}, {"a1;b1;c1;d1;e1", -112},
            {"a1;b1;c1;d1;;", -112}, {"a1;b1;c1;d1x", -111}, {"a1;b1;c1;d", -110}, {"a1;b1;c1;", -109},
            {"a-999999;b-999999;c-999999;d-999999", 4}, {"a-999999;b-999999;c-999999;d-999999;", -136},
            {"a-999999;b-999999;c-999999;d-9999990", -135}, {"a-999999;b-999999;c-999999;d-", -129},
        });
        rows(FAULTS, "", new Object[][] {{"", -100}, {"a", -100}, {"a1", -100}});
        // A full text: 60 characters of which the first seven are read, and none of which is missed.
        Boundary.says(38, FAULTS).runs("addAxis(0, 0, 1)\n" + reads("a" + "0".repeat(59), -107)
                + "type('0') = FULL; readLocation() = -107");
        Boundary.says(38, FAULTS).runs("addAxis(0, 0, 1)\n" + reads("a".repeat(60), -101));
    }

    private static void lettersNotAllowed() {
        rows(ALLOWED, "addAxis(-9, 0, 9)\n", new Object[][] {
            {"a1", 1}, {"b1", -100}, {"a1;b1", -103}, {"z1", -100}, {"a1;a1", -103}, {"a1;a", -103},
            {"" + (char) ('a' + 256) + "1", -100}, {"" + (char) 65535 + "1", -100}, {"" + (char) 0 + "1", -100},
            {"{1", -100}, {"`1", -100},
        });
        rows(ALLOWED, FOUR_AXES + "pin(1, true); pin(3, true)\n", new Object[][] {
            {"a1;c1", 2}, {"b1", -100}, {"d1", -100}, {"a1;b1", -103}, {"a1;c1;d1", -106}, {"c1;a1;b1", -106},
            {"a1;c1;a1", -106}, {"a1;c1;c1", -106}, {"c1", 1}, {"e1", -100},
        });
        Boundary.says(38, ALLOWED).runs(TWO_AXES + reads("a1;b1", 2) + """
            pin(1, true); readLocation() = -103
            pin(0, true); readLocation() = -100
            pin(1, false); readLocation() = -100
            pin(0, false); readLocation() = 2
            clearText()
            """).runs(reads("c1", -100)).runs("addAxis(0, 0, 9) = 2; readLocation() = 1; axisValue(2, 0) = 1820");
    }

    private static void count() {
        Boundary.says(39, "`what`: 0 for axes, 1 for glyphs, 2 for instances, 3 for operations that can be undone",
                "Returns how many there are; BAD_VALUE.").runs("""
            count(0) = 0; count(1) = 0; count(2) = 0; count(3) = 0
            count(-1) = BAD_VALUE
            count(4) = BAD_VALUE
            count(2147483647) = BAD_VALUE
            count(-2147483648) = BAD_VALUE
            """).runs(FOUR_AXES + """
            addGlyph(false, 0); addGlyph(false, 0); addGlyph(false, 0); addGlyph(false, 0); addGlyph(false, 0)
            addInstance(); addInstance(); addInstance(); addInstance(); addInstance()
            prune(0); prune(1); prune(2); prune(3); prune(4)
            """).asks("count(0) = 4; count(1) = 5; count(2) = 5; count(3) = 5; count(4) = BAD_VALUE").runs("""
            addGlyph(false, 0); addInstance(); prune(0)
            count(1) = 6; count(2) = 6; count(3) = 6
            prune(0); count(3) = 6
            undo(); count(3) = 5
            """);
    }
}
