/** Promises 21 to 27: positions and outlines at the present location. */
public final class OutlinesTest {
    private static final int NO_GLYPH = FontInstancer.NO_SUCH_GLYPH;
    private static final long NO_VALUE = FontInstancer.NO_VALUE;

    private OutlinesTest() {
    }

    public static void main(String[] args) {
        position();
        positionIsRounded();
        outlineOfSimpleGlyph();
        outlineOfComposites();
        box();
        middle();
        area();
        flips();
        flipsFromZero();
        flipsAgainstUnvariedTuples();
        widest();
        emptyComposites();
        Check.end("OutlinesTest");
    }

    /** An axis, a triangle as glyph 0, and a tuple from 0 to 16384 that moves point 1 by (100, -60). */
    private static FontInstancer triangle() {
        FontInstancer f = new FontInstancer();
        f.addAxis(-100, 0, 100);
        f.addGlyph(false, 500);
        f.addPoint(0, 0, 0, true);
        f.addPoint(0, 10, 0, false);
        f.addPoint(0, 10, 20, false);
        f.addTuple(0);
        f.setRegion(0, 0, 0, 0, 16384, 16384);
        f.touch(0, 0, 0, 0, 0);
        f.touch(0, 0, 1, 100, -60);
        f.touch(0, 0, 2, 0, 0);
        f.touch(0, 0, -1, -30, 0);
        return f;
    }

    private static void position() {
        FontInstancer f = triangle();
        f.setCoordinate(0, 8192);
        Check.due("21 no glyph", f.position(1, 0, 0), NO_VALUE);
        Check.due("21 negative glyph", f.position(-1, 0, 0), NO_VALUE);
        Check.due("21 no point", f.position(0, 3, 0), NO_VALUE);
        Check.due("21 point -2", f.position(0, -2, 0), NO_VALUE);
        Check.due("21 what 4", f.position(0, 0, 4), NO_VALUE);
        Check.due("21 what -1", f.position(0, 0, -1), NO_VALUE);
        long[][] due = {{500, 0, 485, 0}, {0, 0, 0, 0}, {10, 0, 60, -30}, {10, 20, 10, 20}};
        for (int point = -1; point < 3; point++) {
            for (int what = 0; what < 4; what++) {
                Check.due("21 point " + point + " what " + what, f.position(0, point, what), due[point + 1][what]);
            }
        }
    }

    private static void positionIsRounded() {
        FontInstancer f = new FontInstancer();
        f.addAxis(-2, 0, 2);
        f.addGlyph(false, 0);
        f.addPoint(0, -7, 7, true);
        f.addTuple(0);
        f.addTuple(0);
        f.setRegion(0, 0, 0, 0, 16384, 16384);
        f.setRegion(0, 1, 0, 0, 16384, 16384);
        f.touch(0, 0, 0, 1, -1);
        f.touch(0, 0, -1, -1, 0);
        f.setCoordinate(0, 8192);
        Check.due("21 a half goes up", f.position(0, 0, 2), -6);
        Check.due("21 a negative half goes up", f.position(0, 0, 3), 7);
        Check.due("21 so does the advance", f.position(0, -1, 2), 0);
        f.touch(0, 1, 0, 1, -1);
        f.touch(0, 1, -1, -3, 0);
        Check.due("21 the sum is rounded, not its parts", f.position(0, 0, 2), -6);
        Check.due("21 a negative sum", f.position(0, 0, 3), 6);
        Check.due("21 an advance below 0", f.position(0, -1, 2), -2);
        f.setCoordinate(0, 8191);
        Check.due("21 just below", f.position(0, 0, 3), 6);
        f.setCoordinate(0, -8192);
        Check.due("21 outside of the regions", f.position(0, 0, 2), -7);
    }

    private static void outlineOfSimpleGlyph() {
        FontInstancer f = triangle();
        f.setCoordinate(0, 16384);
        f.addPoint(0, 5, 6, true);
        Check.due("22 no glyph", f.outline(1, 0, 0), NO_VALUE);
        Check.due("22 negative glyph", f.outline(-1, 0, 0), NO_VALUE);
        Check.due("22 no point", f.outline(0, 4, 0), NO_VALUE);
        Check.due("22 the advance is no point", f.outline(0, -1, 0), NO_VALUE);
        Check.due("22 what 3", f.outline(0, 0, 3), NO_VALUE);
        Check.due("22 what -1", f.outline(0, 0, -1), NO_VALUE);
        long[][] due = {{0, 0, 0}, {110, -60, 0}, {10, 20, 0}, {5, 6, 1}};
        for (int k = 0; k < due.length; k++) {
            for (int what = 0; what < 3; what++) {
                Check.due("22 point " + k + " what " + what, f.outline(0, k, what), due[k][what]);
            }
        }
    }

    private static void outlineOfComposites() {
        FontInstancer f = triangle();
        f.addPoint(0, 5, 6, true);
        f.addGlyph(true, 0);
        f.addComponent(1, 0, 1000, 2000);
        f.addComponent(1, 0, -1000, 0);
        f.addTuple(1);
        f.setRegion(1, 0, 0, -16384, -16384, 0);
        f.touch(1, 0, 1, 7, 9);
        f.addGlyph(true, 0);
        f.addComponent(2, 0, 3, 4);
        f.addComponent(2, 1, 10, 20);
        Check.due("22 points", f.glyphValue(2, 3), 12);
        Check.due("22 contours", f.glyphValue(2, 2), 6);
        f.setCoordinate(0, 16384);
        Check.due("22 first component x", f.outline(2, 1, 0), 113);
        Check.due("22 first component y", f.outline(2, 1, 1), -56);
        Check.due("22 second one's first x", f.outline(2, 5, 0), 1120);
        Check.due("22 second one's first y", f.outline(2, 5, 1), 1960);
        Check.due("22 its contour", f.outline(2, 5, 2), 2);
        Check.due("22 the contour behind it", f.outline(2, 7, 2), 3);
        f.setCoordinate(0, -16384);
        Check.due("22 a moved component x", f.outline(2, 11, 0), 10 - 1000 + 7 + 5);
        Check.due("22 a moved component y", f.outline(2, 11, 1), 20 + 9 + 6);
        Check.due("22 its last contour", f.outline(2, 11, 2), 5);
        Check.due("22 behind the last", f.outline(2, 12, 0), NO_VALUE);
    }

    private static void box() {
        FontInstancer f = triangle();
        f.addGlyph(false, 0);
        Check.due("23 no glyph", f.box(2, 0), NO_VALUE);
        Check.due("23 negative glyph", f.box(-1, 0), NO_VALUE);
        Check.due("23 what 4", f.box(0, 4), NO_VALUE);
        Check.due("23 what -1", f.box(0, -1), NO_VALUE);
        Check.due("23 no points", f.box(1, 0), NO_VALUE);
        f.setCoordinate(0, 16384);
        long[] due = {0, 110, -60, 20};
        for (int what = 0; what < 4; what++) {
            Check.due("23 what " + what, f.box(0, what), due[what]);
        }
        f.addPoint(1, -9, 8, true);
        long[] one = {-9, -9, 8, 8};
        for (int what = 0; what < 4; what++) {
            Check.due("23 one point, what " + what, f.box(1, what), one[what]);
        }
    }

    private static void middle() {
        FontInstancer f = triangle();
        f.addGlyph(false, 0);
        Check.dueDouble("24 no glyph", f.middle(2, false), 0.0);
        Check.dueDouble("24 negative glyph", f.middle(-1, true), 0.0);
        Check.dueDouble("24 no points", f.middle(1, true), 0.0);
        f.addPoint(1, 4, -3, true);
        f.addPoint(1, 5, -4, true);
        Check.dueDouble("24 a half", f.middle(1, false), 4.5);
        Check.dueDouble("24 a negative half", f.middle(1, true), -3.5);
        f.setCoordinate(0, 16384);
        Check.dueDouble("24 at the location", f.middle(0, false), 55.0);
        Check.dueDouble("24 at the location, y", f.middle(0, true), -20.0);
    }

    private static void area() {
        FontInstancer f = triangle();
        f.addGlyph(false, 0);
        Check.due("25 no glyph", f.area(2, -1), NO_VALUE);
        Check.due("25 negative glyph", f.area(-1, -1), NO_VALUE);
        Check.due("25 no contour", f.area(0, 1), NO_VALUE);
        Check.due("25 contour -2", f.area(0, -2), NO_VALUE);
        Check.due("25 no contours", f.area(1, 0), NO_VALUE);
        Check.due("25 the sum over none", f.area(1, -1), 0);
        Check.due("25 anticlockwise", f.area(0, 0), 200);
        f.addPoint(0, 0, 0, true);
        f.addPoint(0, 0, 7, false);
        f.addPoint(0, 7, 7, false);
        f.addPoint(0, 3, 3, true);
        f.addPoint(0, 5, 3, true);
        f.addPoint(0, 5, 9, false);
        Check.due("25 clockwise", f.area(0, 1), -49);
        Check.due("25 one point", f.area(0, 2), 0);
        Check.due("25 two points", f.area(0, 3), 0);
        Check.due("25 behind the last", f.area(0, 4), NO_VALUE);
        Check.due("25 the sum", f.area(0, -1), 151);
        f.setCoordinate(0, 16384);
        Check.due("25 at the location", f.area(0, 0), 110 * 20 + 10 * 60);
        FontInstancer g = new FontInstancer();
        g.addGlyph(false, 0);
        g.addPoint(0, -50, 70, true);
        g.addPoint(0, 0, 0, true);
        g.addPoint(0, 10, 0, false);
        g.addPoint(0, 10, 20, false);
        Check.due("25 behind a single point", g.area(0, 1), 200);
        g.addGlyph(false, 0);
        g.addPoint(1, 1, 2, true);
        g.addPoint(1, 3, 5, true);
        g.addPoint(1, 4, 4, false);
        Check.due("25 nothing of an earlier outline is left", g.area(1, 1), 0);
        g.addGlyph(false, 0);
        g.addPoint(2, 1, 1, true);
        g.addPoint(2, 3, 1, false);
        g.addPoint(2, 3, 4, false);
        Check.due("25 away from (0, 0)", g.area(2, 0), 6);
    }

    private static void flips() {
        FontInstancer f = triangle();
        f.addGlyph(false, 0);
        Check.due("26 no glyph", f.flips(2), NO_GLYPH);
        Check.due("26 negative glyph", f.flips(-1), NO_GLYPH);
        Check.due("26 no contours", f.flips(1), 0);
        f.setCoordinate(0, 16384);
        Check.due("26 the same sign", f.flips(0), 0);
        f.touch(0, 0, 1, -100, 0);
        Check.due("26 another sign", f.flips(0), 1);
        f.touch(0, 0, 1, -10, 0);
        Check.due("26 from above 0 to 0", f.flips(0), 1);
        f.setCoordinate(0, 0);
        Check.due("26 at 0", f.flips(0), 0);
        f.pin(0, true);
        Check.due("26 pinned at 0", f.flips(0), 0);
        f.pin(0, false);
        f.setCoordinate(0, 16384);
        f.pin(0, true);
        Check.due("26 a pinned axis counts as 0 too", f.flips(0), 1);
        f.addPoint(0, 0, 0, true);
        f.addPoint(0, 0, 5, false);
        f.addPoint(0, 5, 5, false);
        f.touch(0, 0, 4, 0, -5);
        f.touch(0, 0, 3, 0, 0);
        f.touch(0, 0, 5, 0, 0);
        f.addGlyph(true, 0);
        f.addComponent(2, 0, 1000, 1000);
        f.addComponent(2, 0, 0, 0);
        Check.due("26 contours of a composite glyph", f.flips(2), 4);
        f.touch(0, 0, 1, 0, 0);
        Check.due("26 from below 0 to above 0", f.flips(2), 2);
    }

    /** Glyph 0 is a line and glyph 1 a triangle; point 2 of both goes up with the axis. */
    private static void flipsFromZero() {
        FontInstancer f = new FontInstancer();
        f.addAxis(-10, 0, 10);
        for (int glyph = 0; glyph < 2; glyph++) {
            f.addGlyph(false, 0);
            f.addPoint(glyph, 0, 0, true);
            f.addPoint(glyph, 10, 0, false);
            f.addPoint(glyph, 20, glyph, false);
            f.addTuple(glyph);
            f.setRegion(glyph, 0, 0, 0, 16384, 16384);
            f.touch(glyph, 0, 0, 0, 0);
            f.touch(glyph, 0, 1, 0, 0);
            f.touch(glyph, 0, 2, 0, 1);
        }
        f.setCoordinate(0, 16384);
        Check.due("26 from 0 to above 0", f.flips(0), 1);
        Check.due("26 another glyph, above 0 before and after", f.flips(1), 0);
        f.touch(0, 0, 2, 0, -1);
        Check.due("26 from 0 to below 0", f.flips(0), 1);
        f.touch(1, 0, 2, 0, -1);
        Check.due("26 from above 0 to 0 at the other glyph", f.flips(1), 1);
        f.touch(0, 0, 2, 5, 0);
        Check.due("26 from 0 to 0", f.flips(0), 0);
        f.touch(1, 0, 2, 0, -3);
        Check.due("26 from above 0 to below 0", f.flips(1), 1);
        f.touch(0, 0, 1, -9, 0);
        f.touch(0, 0, 2, 0, 1);
        Check.due("25 the least area", f.area(0, 0), 1);
        Check.due("26 from 0 to 1", f.flips(0), 1);
    }

    private static void flipsAgainstUnvariedTuples() {
        FontInstancer f = triangle();
        f.addTuple(0);
        f.touch(0, 1, 0, 0, 0);
        f.touch(0, 1, 1, -100, 0);
        f.touch(0, 1, 2, 0, 0);
        f.touch(0, 0, 1, 0, 0);
        f.setCoordinate(0, 16384);
        Check.due("26 a tuple without a peak moves both", f.flips(0), 0);
        f.touch(0, 0, 1, 200, 0);
        Check.due("26 and back", f.flips(0), 1);
    }

    private static void widest() {
        FontInstancer f = triangle();
        Check.due("27 no glyph first", f.widest(1, 9), NO_GLYPH);
        Check.due("27 then no axis", f.widest(0, 1), FontInstancer.NO_SUCH_AXIS);
        Check.due("27 negative axis", f.widest(0, -1), FontInstancer.NO_SUCH_AXIS);
        Check.due("27 the first of several", f.widest(0, 0), -16384);
        f.touch(0, 0, -1, 30, 0);
        Check.due("27 at the end", f.widest(0, 0), 16384);
        f.setRegion(0, 0, 0, 0, 4096, 9000);
        Check.due("27 at a step", f.widest(0, 0), 4096);
        f.setRegion(0, 0, 0, 0, 5000, 9000);
        Check.due("27 beside the peak", f.widest(0, 0), 4096);
        f.setRegion(0, 0, 0, 2047, 5121, 8195);
        f.touch(0, 0, -1, 1, 0);
        Check.due("27 equal when rounded, the first", f.widest(0, 0), 4096);
        f.setCoordinate(0, 77);
        f.pin(0, true);
        f.touch(0, 0, -1, 2000, 0);
        Check.due("27 pinned, and not equal", f.widest(0, 0), 6144);
        Check.due("27 the coordinate stays", f.axisValue(0, 0), 77);
        f.addAxis(0, 0, 1);
        f.addTuple(0);
        f.setRegion(0, 1, 1, 0, 16384, 16384);
        f.setRegion(0, 1, 0, 0, 77, 77);
        f.touch(0, 1, -1, 1500, 0);
        f.setCoordinate(1, 16384);
        Check.due("27 at the other axis's present coordinate", f.widest(0, 1), 16384);
        f.pin(0, false);
        f.setCoordinate(0, 76);
        f.touch(0, 1, -1, -1500, 0);
        Check.due("27 where it falls", f.widest(0, 1), -16384);
    }

    private static void emptyComposites() {
        FontInstancer f = new FontInstancer();
        f.addGlyph(false, 0);
        for (int glyph = 1; glyph < 6; glyph++) {
            f.addGlyph(true, 0);
            for (int component = 0; component < 4; component++) {
                Check.due("22 nested", f.addComponent(glyph, glyph - 1, 1, 1), component);
            }
        }
        Check.due("22 no points in 4 * 4 * 4 * 4 * 4", f.glyphValue(5, 3), 0);
        Check.due("22 no contours", f.glyphValue(5, 2), 0);
        Check.due("23 no box", f.box(5, 0), NO_VALUE);
        Check.due("25 no area", f.area(5, -1), 0);
        Check.due("22 no point", f.outline(5, 0, 0), NO_VALUE);
        FontInstancer g = new FontInstancer();
        g.addGlyph(false, 0);
        g.addPoint(0, 1, 2, true);
        for (int glyph = 1; glyph < 6; glyph++) {
            g.addGlyph(true, 0);
            g.addComponent(glyph, glyph - 1, 4000, -4000);
        }
        Check.due("22 six deep x", g.outline(5, 0, 0), 20001);
        Check.due("22 six deep y", g.outline(5, 0, 1), -19998);
    }
}
