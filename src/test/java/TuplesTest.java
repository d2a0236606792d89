/** Promises 13 to 20: the tuples. */
public final class TuplesTest {
    private static final int NO_AXIS = FontInstancer.NO_SUCH_AXIS;
    private static final int NO_GLYPH = FontInstancer.NO_SUCH_GLYPH;
    private static final int NO_TUPLE = FontInstancer.NO_SUCH_TUPLE;
    private static final int NO_POINT = FontInstancer.NO_SUCH_POINT;
    private static final int BAD = FontInstancer.BAD_VALUE;

    private TuplesTest() {
    }

    public static void main(String[] args) {
        addTuple();
        setRegion();
        regionEdges();
        touch();
        release();
        delta();
        inferredBetween();
        inferredAroundContours();
        inferredWithEqualBase();
        touchedCount();
        scalar();
        scalarOfSeveralAxes();
        share();
        Check.end("TuplesTest");
    }

    /** A simple glyph 0 with these points in one contour, an axis and a tuple 0. */
    private static FontInstancer contourOf(int... xy) {
        FontInstancer f = new FontInstancer();
        f.addAxis(-16384, 0, 16384);
        f.addGlyph(false, 100);
        for (int i = 0; i < xy.length; i += 2) {
            f.addPoint(0, xy[i], xy[i + 1], false);
        }
        f.addTuple(0);
        return f;
    }

    private static void addTuple() {
        FontInstancer f = contourOf(0, 0);
        Check.due("13 no glyph", f.addTuple(1), NO_GLYPH);
        Check.due("13 negative glyph", f.addTuple(-1), NO_GLYPH);
        for (int tuple = 1; tuple < 5; tuple++) {
            Check.due("13 tuple " + tuple, f.addTuple(0), tuple);
        }
        Check.due("13 full", f.addTuple(0), FontInstancer.FULL);
        Check.due("13 touches nothing", f.touchedCount(0, 4), 0);
        f.touch(0, 4, 0, 7, 7);
        f.setRegion(0, 4, 0, 1, 2, 3);
        f.fold(0);
        f.addTuple(0);
        f.addTuple(0);
        Check.due("13 a tuple in old rows touches nothing", f.touchedCount(0, 1), 0);
        Check.due("13 nor has it a region", f.scalar(0, 1), 268435456);
        for (int tuple = 0; tuple < f.glyphValue(0, 4); tuple++) {
            f.setRegion(0, tuple, 0, 1, 2, 3);
            f.touch(0, tuple, 0, 7, 7);
        }
        f.pin(0, true);
        f.fold(0);
        for (int tuple = 0; tuple < 5; tuple++) {
            f.addTuple(0);
            Check.due("13 all numbers of its region are 0", f.setRegion(0, tuple, 0, 0, 0, 0), 0);
        }
    }

    private static void setRegion() {
        FontInstancer f = contourOf(0, 0);
        Check.due("14 no glyph first", f.setRegion(1, 9, 9, 5, 4, 3), NO_GLYPH);
        Check.due("14 then no tuple", f.setRegion(0, 1, 9, 5, 4, 3), NO_TUPLE);
        Check.due("14 negative tuple", f.setRegion(0, -1, 0, 0, 0, 0), NO_TUPLE);
        Check.due("14 then no axis", f.setRegion(0, 0, 1, 5, 4, 3), NO_AXIS);
        Check.due("14 negative axis", f.setRegion(0, 0, -1, 0, 0, 0), NO_AXIS);
        Check.due("14 start above peak", f.setRegion(0, 0, 0, 5, 4, 6), BAD);
        Check.due("14 end below peak", f.setRegion(0, 0, 0, 0, 4, 3), BAD);
        Check.due("14 no change", f.setRegion(0, 0, 0, 0, 0, 0), 0);
        Check.due("14 start changes", f.setRegion(0, 0, 0, -1, 0, 0), 1);
        Check.due("14 end changes", f.setRegion(0, 0, 0, -1, 0, 1), 1);
        Check.due("14 the same", f.setRegion(0, 0, 0, -1, 0, 1), 0);
        Check.due("14 all change", f.setRegion(0, 0, 0, 1, 2, 3), 1);
        Check.due("14 peak changes", f.setRegion(0, 0, 0, 1, 3, 3), 1);
        f.addAxis(0, 0, 1);
        Check.due("14 a later axis has 0", f.setRegion(0, 0, 1, 0, 0, 0), 0);
    }

    private static void regionEdges() {
        FontInstancer f = contourOf(0, 0);
        Check.due("14 whole range with peak 0", f.setRegion(0, 0, 0, -16384, 0, 16384), 1);
        Check.due("14 start too small", f.setRegion(0, 0, 0, -16385, 0, 16384), BAD);
        Check.due("14 end too great", f.setRegion(0, 0, 0, -16384, 0, 16385), BAD);
        Check.due("14 peak too great", f.setRegion(0, 0, 0, 0, 16385, 16385), BAD);
        Check.due("14 peak too small", f.setRegion(0, 0, 0, -16385, -16385, 0), BAD);
        Check.due("14 around 0 with peak above", f.setRegion(0, 0, 0, -1, 1, 2), BAD);
        Check.due("14 around 0 with peak below", f.setRegion(0, 0, 0, -2, -1, 1), BAD);
        Check.due("14 from 0", f.setRegion(0, 0, 0, 0, 1, 2), 1);
        Check.due("14 to 0", f.setRegion(0, 0, 0, -2, -1, 0), 1);
        Check.due("14 greatest peak", f.setRegion(0, 0, 0, 16384, 16384, 16384), 1);
        Check.due("14 least peak", f.setRegion(0, 0, 0, -16384, -16384, -16384), 1);
        Check.due("14 nothing changed by errors", f.setRegion(0, 0, 0, -16384, -16384, -16384), 0);
    }

    private static void touch() {
        FontInstancer f = contourOf(0, 0, 10, 10);
        Check.due("15 no glyph first", f.touch(1, 9, 9, 9999, 0), NO_GLYPH);
        Check.due("15 then no tuple", f.touch(0, 1, 9, 9999, 0), NO_TUPLE);
        Check.due("15 then no point", f.touch(0, 0, 2, 9999, 0), NO_POINT);
        Check.due("15 point -2", f.touch(0, 0, -2, 0, 0), NO_POINT);
        Check.due("15 x too great", f.touch(0, 0, 0, 2001, 0), BAD);
        Check.due("15 x too small", f.touch(0, 0, 0, -2001, 0), BAD);
        Check.due("15 y too great", f.touch(0, 0, 0, 0, 2001), BAD);
        Check.due("15 y too small", f.touch(0, 0, 0, 0, -2001), BAD);
        Check.due("15 y of the advance", f.touch(0, 0, -1, 0, 1), BAD);
        Check.due("15 negative y of the advance", f.touch(0, 0, -1, 0, -1), BAD);
        Check.due("15 nothing is touched yet", f.touchedCount(0, 0), 0);
        Check.due("15 greatest", f.touch(0, 0, 0, 2000, 2000), 1);
        Check.due("15 least, again", f.touch(0, 0, 0, -2000, -2000), 0);
        Check.due("15 changed x", f.delta(0, 0, 0, false), -2000);
        Check.due("15 changed y", f.delta(0, 0, 0, true), -2000);
        Check.due("15 the advance", f.touch(0, 0, -1, 2000, 0), 1);
        Check.due("15 the advance again", f.touch(0, 0, -1, -2000, 0), 0);
        Check.due("15 the advance's delta", f.delta(0, 0, -1, false), -2000);
        Check.due("15 touched by (0, 0)", f.touch(0, 0, 1, 0, 0), 1);
        Check.due("15 three", f.touchedCount(0, 0), 3);
    }

    private static void release() {
        FontInstancer f = contourOf(0, 0, 10, 10);
        f.touch(0, 0, 0, 5, 6);
        f.touch(0, 0, -1, 7, 0);
        Check.due("16 no glyph first", f.release(1, 9, 9), NO_GLYPH);
        Check.due("16 then no tuple", f.release(0, 1, 9), NO_TUPLE);
        Check.due("16 then no point", f.release(0, 0, 2), NO_POINT);
        Check.due("16 point -2", f.release(0, 0, -2), NO_POINT);
        Check.due("16 not touched", f.release(0, 0, 1), 0);
        Check.due("16 still inferred", f.delta(0, 0, 1, true), 6);
        Check.due("16 touched", f.release(0, 0, 0), 1);
        Check.due("16 released", f.release(0, 0, 0), 0);
        Check.due("16 no delta then", f.delta(0, 0, 0, false), 0);
        Check.due("16 nor elsewhere", f.delta(0, 0, 1, true), 0);
        Check.due("16 the advance", f.release(0, 0, -1), 1);
        Check.due("16 the advance's delta", f.delta(0, 0, -1, false), 0);
        Check.due("16 touch again", f.touch(0, 0, 0, 1, 1), 1);
    }

    private static void delta() {
        FontInstancer f = contourOf(0, 0, 10, 10);
        Check.due("17 no glyph first", f.delta(1, 9, 9, false), NO_GLYPH);
        Check.due("17 then no tuple", f.delta(0, 1, 9, false), NO_TUPLE);
        Check.due("17 then no point", f.delta(0, 0, 2, true), NO_POINT);
        Check.due("17 point -2", f.delta(0, 0, -2, true), NO_POINT);
        Check.due("17 nothing touched", f.delta(0, 0, 1, false), 0);
        f.touch(0, 0, 0, 5, -6);
        Check.due("17 given x", f.delta(0, 0, 0, false), 5);
        Check.due("17 given y", f.delta(0, 0, 0, true), -6);
        Check.due("17 the advance is not inferred", f.delta(0, 0, -1, false), 0);
        f.touch(0, 0, -1, 9, 0);
        Check.due("17 the advance", f.delta(0, 0, -1, false), 9);
        Check.due("17 the advance in y", f.delta(0, 0, -1, true), 0);
        f.addGlyph(true, 0);
        f.addComponent(1, 0, 0, 0);
        f.addComponent(1, 0, 10, 10);
        f.addTuple(1);
        f.touch(1, 0, 0, 7, 8);
        Check.due("17 a component", f.delta(1, 0, 0, true), 8);
        Check.due("17 a component is not inferred", f.delta(1, 0, 1, false), 0);
        Check.due("17 component 2", f.delta(1, 0, 2, false), NO_POINT);
    }

    private static void inferredBetween() {
        FontInstancer f = contourOf(0, 0, 10, 20, 3, 4, 1, 0, -5, 30);
        f.touch(0, 0, 0, 0, 0);
        f.touch(0, 0, 1, 5, -5);
        Check.due("17 a half goes up", f.delta(0, 0, 3, false), 1);
        Check.due("17 between", f.delta(0, 0, 2, false), 2);
        Check.due("17 between, negative", f.delta(0, 0, 2, true), -1);
        Check.due("17 at the lesser one", f.delta(0, 0, 3, true), 0);
        Check.due("17 below the lesser one", f.delta(0, 0, 4, false), 0);
        Check.due("17 above the greater one", f.delta(0, 0, 4, true), -5);
        FontInstancer g = contourOf(0, 0, 4, 4, 1, 2);
        g.touch(0, 0, 0, 2, -3);
        g.touch(0, 0, 1, 0, 0);
        Check.due("17 a negative half goes up", g.delta(0, 0, 2, false), 2);
        Check.due("17 a half of a rise goes up", g.delta(0, 0, 2, true), -1);
        FontInstancer h = contourOf(4000, 4000, -4000, -4000, 3999, -3999);
        h.touch(0, 0, 0, 2000, -2000);
        h.touch(0, 0, 1, -2000, 2000);
        Check.due("17 far apart, above", h.delta(0, 0, 2, false), 2000);
        Check.due("17 far apart, below", h.delta(0, 0, 2, true), 2000);
    }

    private static void inferredAroundContours() {
        FontInstancer f = contourOf(0, 0, 10, 10, 20, 20);
        f.addPoint(0, 100, 100, true);
        f.addPoint(0, 200, 200, false);
        f.addPoint(0, 300, 300, false);
        f.addPoint(0, 5, 5, true);
        f.touch(0, 0, 4, 40, 8);
        Check.due("17 another contour is untouched", f.delta(0, 0, 0, false), 0);
        Check.due("17 a contour behind it", f.delta(0, 0, 6, false), 0);
        Check.due("17 the only one, forward", f.delta(0, 0, 3, false), 40);
        Check.due("17 the only one, backward", f.delta(0, 0, 5, true), 8);
        f.touch(0, 0, 3, 0, 0);
        f.touch(0, 0, 0, 0, 0);
        f.touch(0, 0, 1, 8, 8);
        Check.due("17 around the end of a contour", f.delta(0, 0, 2, false), 8);
        f.touch(0, 0, 2, 80, 80);
        f.release(0, 0, 0);
        f.release(0, 0, 1);
        f.touch(0, 0, 1, 8, 8);
        Check.due("17 around the start of a contour", f.delta(0, 0, 0, true), 8);
        Check.due("17 another contour is as before", f.delta(0, 0, 5, false), 40);
    }

    private static void inferredWithEqualBase() {
        FontInstancer f = contourOf(0, 5, 10, 5, 20, 5);
        f.touch(0, 0, 0, 3, 9);
        f.touch(0, 0, 2, 3, 9);
        Check.due("17 equal base, equal deltas", f.delta(0, 0, 1, true), 9);
        Check.due("17 other base, equal deltas", f.delta(0, 0, 1, false), 3);
        f.touch(0, 0, 2, 4, 9);
        Check.due("17 each direction by itself", f.delta(0, 0, 1, true), 9);
        f.touch(0, 0, 2, 3, 8);
        Check.due("17 equal base, other deltas", f.delta(0, 0, 1, true), 0);
        Check.due("17 the other direction stays", f.delta(0, 0, 1, false), 3);
    }

    private static void touchedCount() {
        FontInstancer f = contourOf(0, 0, 10, 10);
        Check.due("18 no glyph first", f.touchedCount(1, 9), NO_GLYPH);
        Check.due("18 then no tuple", f.touchedCount(0, 1), NO_TUPLE);
        Check.due("18 negative tuple", f.touchedCount(0, -1), NO_TUPLE);
        Check.due("18 none", f.touchedCount(0, 0), 0);
        f.touch(0, 0, 1, 0, 0);
        Check.due("18 one, others inferred", f.touchedCount(0, 0), 1);
        f.touch(0, 0, -1, 0, 0);
        Check.due("18 the advance is counted", f.touchedCount(0, 0), 2);
    }

    private static void scalar() {
        FontInstancer f = contourOf(0, 0);
        Check.due("19 no glyph first", f.scalar(1, 9), NO_GLYPH);
        Check.due("19 then no tuple", f.scalar(0, 1), NO_TUPLE);
        f.setRegion(0, 0, 0, -5, 0, 0);
        f.setCoordinate(0, 12345);
        Check.due("19 peak 0", f.scalar(0, 0), 268435456);
        f.setRegion(0, 0, 0, 2, 5, 12);
        int[][] due = {{1, 0}, {2, 0}, {3, 89478485}, {4, 178956971}, {5, 268435456}, {6, 230087534}, {11, 38347922},
            {12, 0}, {13, 0}, {-16384, 0}, {16384, 0}};
        for (int[] row : due) {
            f.setCoordinate(0, row[0]);
            Check.due("19 at " + row[0], f.scalar(0, 0), row[1]);
        }
        f.setRegion(0, 0, 0, 16384, 16384, 16384);
        f.setCoordinate(0, 16384);
        Check.due("19 a region of one place", f.scalar(0, 0), 268435456);
        f.setCoordinate(0, 16383);
        Check.due("19 beside it", f.scalar(0, 0), 0);
        f.setRegion(0, 0, 0, -12, -5, 0);
        f.setCoordinate(0, -1);
        Check.due("19 negative, behind the peak", f.scalar(0, 0), 53687091);
        f.setCoordinate(0, -11);
        Check.due("19 negative, before the peak", f.scalar(0, 0), 38347922);
    }

    private static void scalarOfSeveralAxes() {
        FontInstancer f = contourOf(0, 0);
        for (int axis = 1; axis < 4; axis++) {
            f.addAxis(-1, 0, 1);
        }
        for (int axis = 0; axis < 4; axis++) {
            f.setRegion(0, 0, axis, 0, 3 + axis, 16384);
            f.setCoordinate(axis, 2);
        }
        // 2/3 of 268435456 is 178956971, 2/4 of this 89478486 (a half goes up), 2/5 of this 35791394, 2/6 11930465.
        Check.due("19 rounded at each axis in order", f.scalar(0, 0), 11930465);
        f.setRegion(0, 0, 1, 0, 0, 0);
        // 178956971 * 2 / 5 = 71582788, * 2 / 6 = 23860929.
        Check.due("19 an axis without a peak", f.scalar(0, 0), 23860929);
        f.setCoordinate(3, 0);
        Check.due("19 one factor is 0", f.scalar(0, 0), 0);
    }

    private static void share() {
        FontInstancer f = contourOf(0, 0);
        Check.dueDouble("20 no glyph", f.share(1, 0), -1.0);
        Check.dueDouble("20 no tuple", f.share(0, 1), -1.0);
        Check.dueDouble("20 negative numbers", f.share(-1, -1), -1.0);
        Check.dueDouble("20 whole", f.share(0, 0), 1.0);
        f.setRegion(0, 0, 0, 0, 3, 3);
        Check.dueDouble("20 none", f.share(0, 0), 0.0);
        f.setCoordinate(0, 1);
        Check.dueDouble("20 a third", f.share(0, 0), 89478485.0 / 268435456.0);
    }
}
