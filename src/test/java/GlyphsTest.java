/** Promises 9 to 12: the glyphs. */
public final class GlyphsTest {
    private static final int NO_GLYPH = FontInstancer.NO_SUCH_GLYPH;
    private static final int BAD = FontInstancer.BAD_VALUE;
    private static final int FULL = FontInstancer.FULL;
    private static final int NOT_POSSIBLE = FontInstancer.NOT_POSSIBLE;

    private GlyphsTest() {
    }

    public static void main(String[] args) {
        addGlyph();
        addPoint();
        contours();
        newPlacesAreUntouched();
        addComponent();
        outlineLimit();
        componentsAreFrozen();
        glyphValue();
        Check.end("GlyphsTest");
    }

    private static void addGlyph() {
        FontInstancer f = new FontInstancer();
        Check.due("9 advance too small", f.addGlyph(false, -1), BAD);
        Check.due("9 advance too great", f.addGlyph(true, 4001), BAD);
        Check.due("9 least advance", f.addGlyph(false, 0), 0);
        Check.due("9 greatest advance", f.addGlyph(true, 4000), 1);
        for (int glyph = 2; glyph < 6; glyph++) {
            Check.due("9 glyph " + glyph, f.addGlyph(glyph % 2 == 0, glyph), glyph);
        }
        Check.due("9 bad before full", f.addGlyph(true, 4001), BAD);
        Check.due("9 full", f.addGlyph(true, 400), FULL);
        Check.due("9 six", f.count(1), 6);
        Check.due("9 advance kept", f.glyphValue(1, 5), 4000);
        Check.due("9 no points", f.glyphValue(1, 1), 0);
    }

    private static void addPoint() {
        FontInstancer f = new FontInstancer();
        Check.due("10 no glyph before bad", f.addPoint(0, 9999, 0, true), NO_GLYPH);
        f.addGlyph(false, 1);
        f.addGlyph(true, 1);
        Check.due("10 negative glyph", f.addPoint(-1, 0, 0, true), NO_GLYPH);
        Check.due("10 x too great", f.addPoint(0, 4001, 0, true), BAD);
        Check.due("10 x too small", f.addPoint(0, -4001, 0, true), BAD);
        Check.due("10 y too great", f.addPoint(0, 0, 4001, true), BAD);
        Check.due("10 y too small", f.addPoint(0, 0, -4001, true), BAD);
        Check.due("10 composite, bad first", f.addPoint(1, 0, -4001, true), BAD);
        Check.due("10 composite", f.addPoint(1, 0, 0, true), NOT_POSSIBLE);
        for (int point = 0; point < 24; point++) {
            Check.due("10 point " + point, f.addPoint(0, point % 2 == 0 ? 4000 : -4000, -point, false), point);
        }
        Check.due("10 full", f.addPoint(0, 0, 0, true), FULL);
        Check.due("10 bad before full", f.addPoint(0, 5000, 0, true), BAD);
        Check.due("10 x kept", f.position(0, 23, 0), -4000);
        Check.due("10 y kept", f.position(0, 23, 1), -23);
        f.addComponent(1, 0, 0, 0);
        Check.due("10 component before full", f.addPoint(0, 0, 0, true), NOT_POSSIBLE);
        Check.due("10 all points", f.glyphValue(0, 3), 24);
        Check.due("10 one contour", f.glyphValue(0, 2), 1);
    }

    private static void contours() {
        FontInstancer f = new FontInstancer();
        f.addGlyph(false, 1);
        boolean[] starts = {false, false, true, true, false};
        int[] contour = {0, 0, 1, 2, 2};
        for (boolean start : starts) {
            f.addPoint(0, 1, 1, start);
        }
        for (int point = 0; point < contour.length; point++) {
            Check.due("10 contour of point " + point, f.outline(0, point, 2), contour[point]);
        }
        Check.due("10 contours", f.glyphValue(0, 2), 3);
    }

    private static void newPlacesAreUntouched() {
        FontInstancer f = new FontInstancer();
        f.addGlyph(false, 1);
        f.addGlyph(true, 1);
        f.addPoint(0, 0, 0, true);
        f.addTuple(0);
        f.prune(0);
        f.undo();
        f.touch(0, 0, 0, 5, 6);
        f.merge(0);
        f.addPoint(0, 9, 9, true);
        f.touch(0, 0, 1, 7, 8);
        f.undo();
        f.addPoint(0, 9, 9, true);
        Check.due("10 no tuple touches a new point", f.delta(0, 0, 1, false), 0);
        Check.due("10 nor is it counted", f.touchedCount(0, 0), 1);
        Check.due("10 it can be touched", f.touch(0, 0, 1, 1, 1), 1);
        f.addTuple(1);
        f.touch(1, 0, -1, 3, 0);
        f.addComponent(1, 0, 5, 5);
        Check.due("11 no tuple touches a new component", f.touchedCount(1, 0), 1);
        Check.due("11 its delta", f.delta(1, 0, 0, false), 0);
    }

    private static void addComponent() {
        FontInstancer f = new FontInstancer();
        Check.due("11 no glyph", f.addComponent(0, 0, 9999, 0), NO_GLYPH);
        f.addGlyph(false, 1);
        f.addGlyph(true, 1);
        f.addGlyph(true, 1);
        Check.due("11 child is the glyph", f.addComponent(1, 1, 9999, 0), NO_GLYPH);
        Check.due("11 child is later", f.addComponent(1, 2, 0, 0), NO_GLYPH);
        Check.due("11 child is negative", f.addComponent(1, -1, 0, 0), NO_GLYPH);
        Check.due("11 glyph is negative", f.addComponent(-1, -2, 0, 0), NO_GLYPH);
        Check.due("11 glyph is none", f.addComponent(3, 0, 0, 0), NO_GLYPH);
        Check.due("11 simple glyph, no child", f.addComponent(0, 0, 0, 0), NO_GLYPH);
        f.addGlyph(false, 1);
        Check.due("11 simple, bad first", f.addComponent(3, 0, 4001, 0), BAD);
        Check.due("11 simple", f.addComponent(3, 0, 0, 0), NOT_POSSIBLE);
        Check.due("11 x too great", f.addComponent(1, 0, 4001, 0), BAD);
        Check.due("11 x too small", f.addComponent(1, 0, -4001, 0), BAD);
        Check.due("11 y too great", f.addComponent(1, 0, 0, 4001), BAD);
        Check.due("11 y too small", f.addComponent(1, 0, 0, -4001), BAD);
        for (int component = 0; component < 4; component++) {
            Check.due("11 component " + component, f.addComponent(1, 0, 4000, -4000), component);
        }
        Check.due("11 full", f.addComponent(1, 0, 0, 0), FULL);
        Check.due("11 bad before full", f.addComponent(1, 0, 0, 5000), BAD);
        Check.due("11 x kept", f.position(1, 3, 0), 4000);
        Check.due("11 y kept", f.position(1, 3, 1), -4000);
        f.addComponent(2, 0, 0, 0);
        Check.due("11 not yet a component", f.addComponent(1, 0, 0, 0), FULL);
        f.addComponent(2, 1, 0, 0);
        Check.due("11 component of another one, before full", f.addComponent(1, 0, 0, 0), NOT_POSSIBLE);
    }

    private static void outlineLimit() {
        FontInstancer f = new FontInstancer();
        f.addGlyph(false, 1);
        f.addGlyph(true, 1);
        f.addGlyph(true, 1);
        f.addGlyph(false, 1);
        f.addGlyph(true, 1);
        for (int point = 0; point < 24; point++) {
            f.addPoint(0, point, 0, true);
        }
        f.addPoint(3, 7, 7, true);
        f.addComponent(1, 0, 0, 0);
        f.addComponent(1, 0, 0, 0);
        Check.due("11 48 points", f.addComponent(2, 1, 0, 0), 0);
        Check.due("11 96 points", f.addComponent(2, 1, 0, 0), 1);
        Check.due("11 120 points", f.addComponent(2, 0, 0, 0), FULL);
        Check.due("11 96 points stay", f.glyphValue(2, 3), 96);
        Check.due("11 two components", f.glyphValue(2, 1), 2);
        Check.due("11 96 contours", f.glyphValue(2, 2), 96);
        Check.due("11 the last one", f.outline(2, 95, 0), 23);
        f.addComponent(4, 0, 0, 0);
        f.addComponent(4, 1, 0, 0);
        f.addComponent(4, 3, 0, 0);
        Check.due("11 97 points", f.addComponent(4, 0, 0, 0), FULL);
        Check.due("11 74 points", f.addComponent(4, 3, 0, 0), 3);
    }

    private static void componentsAreFrozen() {
        FontInstancer f = new FontInstancer();
        f.addGlyph(false, 1);
        f.addGlyph(true, 1);
        f.addPoint(0, 0, 0, true);
        f.prune(1);
        f.addComponent(1, 0, 0, 0);
        Check.due("10 frozen", f.addPoint(0, 0, 0, true), NOT_POSSIBLE);
        Check.due("10 a tuple is possible", f.addTuple(0), 0);
        f.undo();
        Check.due("10 no longer a component", f.addPoint(0, 0, 0, true), 1);
    }

    private static void glyphValue() {
        FontInstancer f = new FontInstancer();
        Check.due("12 no glyph before bad", f.glyphValue(0, 6), NO_GLYPH);
        f.addGlyph(false, 77);
        f.addGlyph(true, 78);
        f.addGlyph(true, 79);
        Check.due("12 an empty glyph's contours", f.glyphValue(0, 2), 0);
        f.addPoint(0, 1, 1, true);
        f.addPoint(0, 1, 1, false);
        f.addPoint(0, 1, 1, true);
        f.addTuple(0);
        f.addTuple(0);
        f.addComponent(1, 0, 0, 0);
        f.addComponent(1, 0, 0, 0);
        f.addTuple(1);
        f.addComponent(2, 1, 0, 0);
        f.addComponent(2, 0, 0, 0);
        f.addComponent(2, 1, 0, 0);
        int[][] due = {{0, 3, 2, 3, 2, 77}, {1, 2, 4, 6, 1, 78}, {1, 3, 10, 15, 0, 79}};
        for (int glyph = 0; glyph < due.length; glyph++) {
            for (int what = 0; what < 6; what++) {
                Check.due("12 glyph " + glyph + " what " + what, f.glyphValue(glyph, what), due[glyph][what]);
            }
        }
        Check.due("12 what 6", f.glyphValue(0, 6), BAD);
        Check.due("12 what -1", f.glyphValue(0, -1), BAD);
        Check.due("12 glyph -1", f.glyphValue(-1, 0), NO_GLYPH);
        Check.due("12 glyph 3", f.glyphValue(3, 0), NO_GLYPH);
    }
}
