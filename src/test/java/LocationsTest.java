/** Promises 33 to 39: instances, the text, locations read from it, and counts. */
public final class LocationsTest {
    private static final int BAD = FontInstancer.BAD_VALUE;

    private LocationsTest() {
    }

    public static void main(String[] args) {
        addInstance();
        applyInstance();
        nearestInstance();
        typeAndClear();
        readLocation();
        readLocationFaults();
        readLocationAllowed();
        readLocationChangesNothingOnFault();
        count();
        Check.end("LocationsTest");
    }

    private static FontInstancer axes(int number) {
        FontInstancer f = new FontInstancer();
        for (int axis = 0; axis < number; axis++) {
            f.addAxis(-16384, 0, 16384);
        }
        return f;
    }

    private static int read(FontInstancer f, String text) {
        f.clearText();
        for (int at = 0; at < text.length(); at++) {
            f.type(text.charAt(at));
        }
        return f.readLocation();
    }

    private static void addInstance() {
        FontInstancer f = axes(1);
        for (int instance = 0; instance < 6; instance++) {
            f.setCoordinate(0, 10 * instance);
            Check.due("33 instance " + instance, f.addInstance(), instance);
        }
        Check.due("33 full", f.addInstance(), FontInstancer.FULL);
        Check.due("33 six", f.count(2), 6);
        f.addAxis(0, 5, 10);
        f.setCoordinate(1, 77);
        f.applyInstance(3);
        Check.due("33 the coordinate kept", f.axisValue(0, 0), 30);
        Check.due("33 a later axis has 0", f.axisValue(1, 0), 0);
        FontInstancer none = axes(0);
        Check.due("33 without axes", none.addInstance(), 0);
        Check.due("34 without axes", none.applyInstance(0), 0);
        Check.due("35 without axes", none.nearestInstance(), 0);
    }

    private static void applyInstance() {
        FontInstancer f = axes(3);
        Check.due("34 none", f.applyInstance(0), BAD);
        f.addInstance();
        f.setCoordinate(0, 1);
        f.setCoordinate(1, 2);
        f.addInstance();
        Check.due("34 negative", f.applyInstance(-1), BAD);
        Check.due("34 behind the last", f.applyInstance(2), BAD);
        Check.due("34 no change", f.applyInstance(1), 0);
        Check.due("34 two change", f.applyInstance(0), 2);
        Check.due("34 axis 0", f.axisValue(0, 0), 0);
        f.pin(1, true);
        Check.due("34 not the pinned one", f.applyInstance(1), 1);
        Check.due("34 which stays", f.axisValue(1, 0), 0);
        Check.due("34 the other one", f.axisValue(0, 0), 1);
        f.pin(1, false);
        Check.due("34 released", f.applyInstance(1), 1);
        FontInstancer all = axes(4);
        all.addInstance();
        for (int axis = 0; axis < 4; axis++) {
            all.setCoordinate(axis, 9 - axis);
        }
        Check.due("34 all four", all.applyInstance(0), 4);
        Check.due("34 the last one", all.axisValue(3, 0), 0);
    }

    private static void nearestInstance() {
        FontInstancer f = axes(2);
        Check.due("35 none", f.nearestInstance(), FontInstancer.NONE);
        f.setCoordinate(0, 100);
        f.addInstance();
        f.setCoordinate(0, -60);
        f.setCoordinate(1, -60);
        f.addInstance();
        f.addInstance();
        f.setCoordinate(0, 0);
        f.setCoordinate(1, 0);
        Check.due("35 the sum of both", f.nearestInstance(), 0);
        f.setCoordinate(1, -10);
        Check.due("35 the first of equal ones", f.nearestInstance(), 0);
        f.setCoordinate(1, -11);
        Check.due("35 the first of two alike", f.nearestInstance(), 1);
        f.pin(1, true);
        Check.due("35 pinned axes count", f.nearestInstance(), 1);
        FontInstancer far = axes(4);
        for (int axis = 0; axis < 4; axis++) {
            far.setCoordinate(axis, 16384);
        }
        far.addInstance();
        for (int axis = 0; axis < 4; axis++) {
            far.setCoordinate(axis, -16384);
        }
        Check.due("35 the farthest of all", far.nearestInstance(), 0);
    }

    private static void typeAndClear() {
        FontInstancer f = axes(1);
        Check.due("37 empty", f.clearText(), 0);
        char[] some = {'a', (char) 0, (char) 255, (char) 256, (char) 65535, ' '};
        for (int at = 0; at < 60; at++) {
            Check.due("36 character " + at, f.type(some[at % some.length]), at + 1);
        }
        Check.due("36 full", f.type('a'), FontInstancer.FULL);
        Check.due("36 full again", f.type('5'), FontInstancer.FULL);
        Check.due("37 its length", f.clearText(), 60);
        Check.due("37 empty then", f.clearText(), 0);
        Check.due("36 a new text", f.type('a'), 1);
        Check.due("38 nothing of the old text is left", f.readLocation(), -101);
        FontInstancer g = axes(2);
        Check.due("38 a text", read(g, "a-5;b7"), 2);
        Check.due("38 no old minus", read(g, "a"), -101);
        Check.due("38 a text again", read(g, "a5;b7"), 2);
        Check.due("38 no old letter", read(g, "a5;"), -103);
        Check.due("38 no old digits", read(g, "a"), -101);
    }

    private static void readLocation() {
        FontInstancer f = axes(4);
        Check.due("38 one item", read(f, "a5"), 1);
        Check.due("38 axis 0", f.axisValue(0, 0), 5);
        Check.due("38 four items in any order", read(f, "d1;b-2;c003;a-0"), 4);
        int[] due = {0, -2, 3, 1};
        for (int axis = 0; axis < 4; axis++) {
            Check.due("38 axis " + axis, f.axisValue(axis, 0), due[axis]);
        }
        Check.due("38 the text stays", f.readLocation(), 4);
        Check.due("37 with its length", f.clearText(), 15);
        Check.due("38 six digits", read(f, "a-999999;b000007"), 2);
        Check.due("38 limited to the range", f.axisValue(0, 0), -16384);
        Check.due("38 zeros before", f.axisValue(1, 0), 7);
        f.addMapPair(0, 8192, 3);
        Check.due("38 another item", read(f, "a8192"), 1);
        Check.due("38 by the map, as setUser", f.axisValue(0, 0), 3);
        Check.due("38 the others stay", f.axisValue(1, 0), 7);
    }

    private static void readLocationFaults() {
        FontInstancer f = axes(2);
        String[] texts = {"", "a", "a-", "a5;", "a5;b", "a5;b-", ";", "5", "-", "A5", "c5", "b5;c5", "a5;a6",
            "a--5", "a+5", "a 5", " a5", "a5 ", "a5;;b5", "a5,b5", "a5-", "a5b5", "a1234567", "a123456b", "a-1234567",
            "b000000;a12", "b0000000", "a5;b12;", "a5;b12;a3", "a5;b12;c", "`5", "a/", "a:", "a5:", "a;", "e1", "{1"};
        int[] faults = {0, 1, 2, 3, 4, 5, 0, 0, 0, 0, 0, 3, 3,
            2, 1, 1, 0, 2, 3, 2, 2, 2, 7, 7, 8,
            -1, 7, 7, 7, 7, 0, 1, 1, 2, 1, 0, 0};
        for (int row = 0; row < texts.length; row++) {
            int due = faults[row] < 0 ? 2 : -100 - faults[row];
            Check.due("38 text <" + texts[row] + ">", read(f, texts[row]), due);
        }
        Check.due("38 a character beyond 255", read(f, "a" + (char) ('5' + 256)), -101);
        Check.due("38 another script's digit", read(f, "a" + (char) 0x665), -101);
        Check.due("38 a letter beyond 255", read(f, "" + (char) ('a' + 65280) + "5"), -100);
        Check.due("38 character 0", read(f, "a5" + (char) 0), -102);
        FontInstancer four = axes(4);
        String[] behindFour = {"", "a1", "e1", "-", ";"};
        for (String more : behindFour) {
            Check.due("38 behind four items <" + more + ">", read(four, "d1;c1;b-1;a1;" + more), -113);
        }
        FontInstancer none = axes(0);
        Check.due("38 no axes", read(none, "a5"), -100);
        FontInstancer long60 = axes(1);
        StringBuilder text = new StringBuilder();
        for (int at = 0; at < 59; at++) {
            text.append('0');
        }
        Check.due("38 a full text", read(long60, "a" + text), -107);
    }

    private static void readLocationAllowed() {
        FontInstancer f = axes(3);
        f.pin(1, true);
        Check.due("38 a pinned axis", read(f, "a1;b2"), -103);
        Check.due("38 another one", read(f, "a1;c2"), 2);
        f.pin(1, false);
        Check.due("38 released", read(f, "a1;b2"), 2);
        Check.due("38 the same letter in a later text", read(f, "a2;b1"), 2);
        Check.due("38 a letter twice, with one between", read(f, "a2;b1;a2"), -106);
    }

    private static void readLocationChangesNothingOnFault() {
        FontInstancer f = axes(2);
        f.setCoordinate(0, 11);
        f.setCoordinate(1, 22);
        Check.due("38 a late fault", read(f, "a5;b6;"), -106);
        Check.due("38 axis 0 stays", f.axisValue(0, 0), 11);
        Check.due("38 axis 1 stays", f.axisValue(1, 0), 22);
        Check.due("38 a fault at a letter", read(f, "b"), -101);
        Check.due("38 then one item", read(f, "a7"), 1);
        Check.due("38 axis 1 is not named by it", f.axisValue(1, 0), 22);
    }

    private static void count() {
        FontInstancer f = axes(3);
        f.addGlyph(false, 0);
        f.addGlyph(true, 0);
        f.addInstance();
        for (int operation = 0; operation < 5; operation++) {
            f.prune(0);
        }
        int[] due = {3, 2, 1, 5};
        for (int what = 0; what < 4; what++) {
            Check.due("39 what " + what, f.count(what), due[what]);
        }
        Check.due("39 what 4", f.count(4), BAD);
        Check.due("39 what -1", f.count(-1), BAD);
        Check.due("39 extreme", f.count(Integer.MIN_VALUE), BAD);
    }
}
