/** Writes down all that a font answers without being changed, so that two states can be compared. */
final class Dump {
    private Dump() {
    }

    static String of(FontInstancer f) {
        StringBuilder out = new StringBuilder();
        for (int what = 0; what < 4; what++) {
            out.append(f.count(what)).append(' ');
        }
        out.append("near ").append(f.nearestInstance());
        for (int axis = 0; axis < f.count(0); axis++) {
            out.append("\naxis ").append(axis);
            for (int what = 0; what < 6; what++) {
                out.append(' ').append(f.axisValue(axis, what));
            }
            int least = f.axisValue(axis, 1);
            int span = f.axisValue(axis, 3) - least;
            for (int part = 0; part <= 16; part++) {
                out.append(' ').append(f.normalize(axis, least + (int) ((long) span * part / 16)));
            }
        }
        for (int glyph = 0; glyph < f.count(1); glyph++) {
            addGlyph(out, f, glyph);
        }
        return out.toString();
    }

    private static void addGlyph(StringBuilder out, FontInstancer f, int glyph) {
        out.append("\nglyph ").append(glyph);
        for (int what = 0; what < 6; what++) {
            out.append(' ').append(f.glyphValue(glyph, what));
        }
        for (int axis = 0; axis < f.count(0); axis++) {
            out.append(" widest ").append(f.widest(glyph, axis));
        }
        out.append(" flips ").append(f.flips(glyph)).append(" area ").append(f.area(glyph, -1));
        for (int what = 0; what < 4; what++) {
            out.append(' ').append(f.box(glyph, what));
        }
        for (int point = -1; point < f.glyphValue(glyph, 1); point++) {
            out.append("\n point ").append(point);
            for (int what = 0; what < 4; what++) {
                out.append(' ').append(f.position(glyph, point, what));
            }
        }
        for (int k = 0; k < f.glyphValue(glyph, 3); k++) {
            out.append("\n outline ").append(k);
            for (int what = 0; what < 3; what++) {
                out.append(' ').append(f.outline(glyph, k, what));
            }
        }
        for (int tuple = 0; tuple < f.glyphValue(glyph, 4); tuple++) {
            out.append("\n tuple ").append(f.touchedCount(glyph, tuple)).append(' ').append(f.scalar(glyph, tuple));
            for (int point = -1; point < f.glyphValue(glyph, 1); point++) {
                out.append(' ').append(f.delta(glyph, tuple, point, false));
                out.append(' ').append(f.delta(glyph, tuple, point, true));
            }
        }
    }
}
