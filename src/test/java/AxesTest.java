/** Promises 1 to 8: a new object and the axes. */
public final class AxesTest {
    private static final int NO_AXIS = FontInstancer.NO_SUCH_AXIS;
    private static final int BAD = FontInstancer.BAD_VALUE;
    private static final int NOT_POSSIBLE = FontInstancer.NOT_POSSIBLE;

    private AxesTest() {
    }

    public static void main(String[] args) {
        newObject();
        addAxis();
        addMapPair();
        addMapPairAtTheLimit();
        normalize();
        normalizeWithMap();
        setUser();
        setCoordinate();
        pin();
        axisValue();
        Check.end("AxesTest");
    }

    private static void newObject() {
        FontInstancer f = new FontInstancer();
        for (int what = 0; what < 4; what++) {
            Check.due("1 count " + what, f.count(what), 0);
        }
        Check.due("1 text", f.clearText(), 0);
        Check.due("1 undo", f.undo(), FontInstancer.NONE);
        Check.due("1 nearest", f.nearestInstance(), FontInstancer.NONE);
        Check.due("1 axis", f.axisValue(0, 0), NO_AXIS);
        Check.due("1 glyph", f.glyphValue(0, 0), FontInstancer.NO_SUCH_GLYPH);
        FontInstancer other = new FontInstancer();
        other.addAxis(0, 1, 2);
        Check.due("1 objects share nothing", f.count(0), 0);
    }

    private static void addAxis() {
        FontInstancer f = new FontInstancer();
        Check.due("2 least too small", f.addAxis(-100001, 0, 10), BAD);
        Check.due("2 least too great", f.addAxis(100001, 100001, 100001), BAD);
        Check.due("2 default below least", f.addAxis(0, -1, 10), BAD);
        Check.due("2 greatest below default", f.addAxis(0, 5, 4), BAD);
        Check.due("2 greatest too great", f.addAxis(0, 5, 100001), BAD);
        Check.due("2 no range", f.addAxis(5, 5, 5), BAD);
        Check.due("2 no range at the top", f.addAxis(100000, 100000, 100000), BAD);
        Check.due("2 extreme", f.addAxis(Integer.MIN_VALUE, 0, Integer.MAX_VALUE), BAD);
        Check.due("2 none was added", f.count(0), 0);
        Check.due("2 widest range", f.addAxis(-100000, 0, 100000), 0);
        Check.due("2 default is least", f.addAxis(7, 7, 8), 1);
        Check.due("2 default is greatest", f.addAxis(7, 8, 8), 2);
        Check.due("2 default is both ends' neighbour", f.addAxis(99999, 100000, 100000), 3);
        Check.due("2 bad before full", f.addAxis(1, 1, 1), BAD);
        Check.due("2 full", f.addAxis(0, 1, 2), FontInstancer.FULL);
        Check.due("2 four", f.count(0), 4);
        Check.due("2 coordinate", f.axisValue(3, 0), 0);
        Check.due("2 not pinned", f.axisValue(3, 5), 0);
    }

    private static void addMapPair() {
        FontInstancer f = new FontInstancer();
        Check.due("3 no axis", f.addMapPair(0, 1, 1), NO_AXIS);
        Check.due("3 no axis before bad", f.addMapPair(0, 0, 99999), NO_AXIS);
        f.addAxis(0, 500, 1000);
        Check.due("3 negative axis", f.addMapPair(-1, 1, 1), NO_AXIS);
        Check.due("3 from 0", f.addMapPair(0, 0, 0), BAD);
        Check.due("3 from 16384", f.addMapPair(0, 16384, 16384), BAD);
        Check.due("3 from -16384", f.addMapPair(0, -16384, -16384), BAD);
        Check.due("3 from beyond", f.addMapPair(0, 20000, 16384), BAD);
        Check.due("3 to beyond", f.addMapPair(0, 5, 16385), BAD);
        Check.due("3 to below", f.addMapPair(0, -5, -16385), BAD);
        Check.due("3 to below the pair before", f.addMapPair(0, 5, -1), BAD);
        Check.due("3 to above the pair behind", f.addMapPair(0, -5, 1), BAD);
        Check.due("3 three pairs still", f.axisValue(0, 4), 3);
        Check.due("3 at the upper end", f.addMapPair(0, 16383, 16384), 4);
        Check.due("3 at the lower end", f.addMapPair(0, -16383, -16384), 5);
        Check.due("3 equal to both neighbours' to", f.addMapPair(0, -1, 0), 6);
        Check.due("3 changed", f.addMapPair(0, 16383, 100), 6);
        Check.due("3 changed to equal the pair before", f.addMapPair(0, 16383, 0), 6);
        Check.due("3 changed too far", f.addMapPair(0, 16383, -1), BAD);
        Check.due("3 changed up to the pair behind", f.addMapPair(0, -16383, 0), 6);
        Check.due("3 changed below the pair before", f.addMapPair(0, -1, -1), BAD);
        Check.due("3 the map", f.normalize(0, 0), -16384);
    }

    private static void addMapPairAtTheLimit() {
        FontInstancer f = new FontInstancer();
        f.addAxis(0, 0, 16384);
        for (int pair = 1; pair <= 5; pair++) {
            Check.due("3 pair " + pair, f.addMapPair(0, 1000 * pair, 2000 * pair), 3 + pair);
        }
        Check.due("3 bad before full", f.addMapPair(0, 1500, 1999), BAD);
        Check.due("3 full", f.addMapPair(0, 1500, 2500), FontInstancer.FULL);
        Check.due("3 change when full", f.addMapPair(0, 1000, 1001), 8);
        Check.due("3 the changed pair", f.normalize(0, 1000), 1001);
        Check.due("3 the last pair", f.normalize(0, 5000), 10000);
        Check.due("3 between the changed one and the next", f.normalize(0, 1500), 2501);
        Check.due("4 the end of a full map", f.normalize(0, 16384), 16384);
        Check.due("4 its start", f.normalize(0, -5), 0);
        Check.due("3 a second axis", f.addAxis(0, 0, 16384), 1);
        Check.due("3 has a map of its own", f.normalize(1, 1000), 1000);
        FontInstancer pinned = new FontInstancer();
        pinned.addAxis(0, 0, 10);
        pinned.setUser(0, 5);
        pinned.pin(0, true);
        Check.due("3 on a pinned axis", pinned.addMapPair(0, 8192, 4096), 4);
        Check.due("3 the coordinate stays", pinned.axisValue(0, 0), 8192);
    }

    private static void normalize() {
        FontInstancer f = new FontInstancer();
        Check.due("4 no axis", f.normalize(0, 0), NO_AXIS);
        f.addAxis(-100000, 0, 100000);
        Check.due("4 negative axis", f.normalize(-1, 0), NO_AXIS);
        Check.due("4 least int", f.normalize(0, Integer.MIN_VALUE), -16384);
        Check.due("4 greatest int", f.normalize(0, Integer.MAX_VALUE), 16384);
        Check.due("4 rounded up", f.normalize(0, 99997), 16384);
        Check.due("4 rounded down", f.normalize(0, 99996), 16383);
        Check.due("4 rounded before the sign", f.normalize(0, -99997), -16384);
        f.addAxis(-32768, 0, 32768);
        Check.due("4 a half goes up", f.normalize(1, 1), 1);
        Check.due("4 minus a rounded half", f.normalize(1, -1), -1);
        f.addAxis(7, 7, 9);
        Check.due("4 below a least default", f.normalize(2, 6), 0);
        Check.due("4 above it", f.normalize(2, 8), 8192);
        f.addAxis(7, 9, 9);
        Check.due("4 above a greatest default", f.normalize(3, 10), 0);
        Check.due("4 below it", f.normalize(3, 8), -8192);
        Check.due("4 changes nothing", f.axisValue(3, 0), 0);
    }

    private static void normalizeWithMap() {
        FontInstancer f = new FontInstancer();
        f.addAxis(-16384, 0, 16384);
        f.addMapPair(0, 2, 3);
        f.addMapPair(0, 4, 4);
        f.addMapPair(0, -4, -3);
        Check.due("4 a half of a map goes up", f.normalize(0, 1), 2);
        Check.due("4 at a pair", f.normalize(0, 2), 3);
        Check.due("4 a half behind it", f.normalize(0, 3), 4);
        Check.due("4 below 0", f.normalize(0, -3), -2);
        Check.due("4 a half of a negative piece goes up", f.normalize(0, -2), -1);
        Check.due("4 the pair below 0", f.normalize(0, -4), -3);
        Check.due("4 the upper end", f.normalize(0, 16384), 16384);
        Check.due("4 the lower end", f.normalize(0, -16384), -16384);
        f.addMapPair(0, 16383, 4);
        Check.due("4 a steep last piece", f.normalize(0, 16383), 4);
        Check.due("4 and its end", f.normalize(0, 16384), 16384);
        f.addMapPair(0, -16383, -16384);
        Check.due("4 a flat piece", f.normalize(0, -16383), -16384);
    }

    private static void setUser() {
        FontInstancer f = new FontInstancer();
        Check.due("5 no axis", f.setUser(0, 0), NO_AXIS);
        f.addAxis(0, 500, 1000);
        Check.due("5 negative axis", f.setUser(-1, 0), NO_AXIS);
        Check.due("5 in range", f.setUser(0, 750), 8192);
        Check.due("5 it stands", f.axisValue(0, 0), 8192);
        Check.due("5 out of range", f.setUser(0, -77), -16384);
        f.addMapPair(0, 8192, 1);
        Check.due("5 a later map changes no coordinate", f.axisValue(0, 0), -16384);
        Check.due("5 by the map", f.setUser(0, 750), 1);
        f.pin(0, true);
        Check.due("5 pinned", f.setUser(0, 1000), NOT_POSSIBLE);
        Check.due("5 pinned, the same value", f.setUser(0, 750), NOT_POSSIBLE);
        Check.due("5 unchanged", f.axisValue(0, 0), 1);
    }

    private static void setCoordinate() {
        FontInstancer f = new FontInstancer();
        Check.due("6 no axis", f.setCoordinate(0, 99999), NO_AXIS);
        f.addAxis(0, 500, 1000);
        Check.due("6 too great", f.setCoordinate(0, 16385), BAD);
        Check.due("6 too small", f.setCoordinate(0, -16385), BAD);
        Check.due("6 greatest", f.setCoordinate(0, 16384), 0);
        Check.due("6 least", f.setCoordinate(0, -16384), 16384);
        Check.due("6 again", f.setCoordinate(0, 5), -16384);
        f.pin(0, true);
        Check.due("6 bad before pinned", f.setCoordinate(0, 16385), BAD);
        Check.due("6 pinned", f.setCoordinate(0, 6), NOT_POSSIBLE);
        Check.due("6 unchanged", f.axisValue(0, 0), 5);
        f.pin(0, false);
        Check.due("6 released", f.setCoordinate(0, 6), 5);
    }

    private static void pin() {
        FontInstancer f = new FontInstancer();
        Check.due("7 no axis", f.pin(0, true), NO_AXIS);
        f.addAxis(0, 500, 1000);
        f.addAxis(0, 500, 1000);
        Check.due("7 negative axis", f.pin(-1, true), NO_AXIS);
        Check.due("7 no change", f.pin(0, false), 0);
        Check.due("7 pinned", f.pin(0, true), 1);
        Check.due("7 pinned again", f.pin(0, true), 0);
        Check.due("7 the other axis", f.axisValue(1, 5), 0);
        Check.due("7 released", f.pin(0, false), 1);
        Check.due("7 released again", f.pin(0, false), 0);
    }

    private static void axisValue() {
        FontInstancer f = new FontInstancer();
        Check.due("8 no axis before bad", f.axisValue(0, 9), NO_AXIS);
        f.addAxis(-3, 4, 50);
        f.addMapPair(0, 77, 78);
        f.setCoordinate(0, -9);
        f.pin(0, true);
        int[] due = {-9, -3, 4, 50, 4, 1};
        for (int what = 0; what < due.length; what++) {
            Check.due("8 what " + what, f.axisValue(0, what), due[what]);
        }
        Check.due("8 what 6", f.axisValue(0, 6), BAD);
        Check.due("8 what -1", f.axisValue(0, -1), BAD);
        Check.due("8 axis 1", f.axisValue(1, 0), NO_AXIS);
        Check.due("8 axis -1", f.axisValue(-1, 0), NO_AXIS);
    }
}
