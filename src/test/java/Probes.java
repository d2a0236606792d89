import java.util.function.Supplier;

/**
 * Writes down all that later calls answer, so that two states can be compared. Each part asks an object of its own,
 * as some of the calls change it, and as an object is asked at most 512 times.
 */
final class Probes {
    private static final int[] PLACES = {-16384, -12000, -8192, -1, 0, 1, 8192, 12000, 16384};

    private final StringBuilder out = new StringBuilder();
    private Run run;

    private Probes() {
    }

    static String of(Supplier<Run> made) {
        Probes probes = new Probes();
        probes.run = made.get();
        int glyphs = (int) probes.run.ask("count", 1);
        probes.addAxes();
        for (int glyph = 0; glyph < glyphs; glyph++) {
            probes.run = made.get();
            probes.addGlyph(glyph);
            probes.run = made.get();
            probes.addDeltas(glyph);
            probes.run = made.get();
            probes.addTouches(glyph);
            probes.run = made.get();
            probes.addScalars(glyph);
        }
        probes.run = made.get();
        probes.addTextAndInstances();
        probes.run = made.get();
        probes.addHistory(glyphs);
        return probes.out.toString();
    }

    private long ask(String name, Object... arguments) {
        long answer = run.ask(name, arguments);
        out.append(' ').append(answer);
        return answer;
    }

    private void addAxes() {
        for (int what = 0; what < 4; what++) {
            ask("count", what);
        }
        ask("nearestInstance");
        int axes = (int) run.ask("count", 0);
        for (int axis = 0; axis < axes; axis++) {
            out.append("\naxis ").append(axis);
            for (int what = 0; what < 6; what++) {
                ask("axisValue", axis, what);
            }
            int least = (int) run.ask("axisValue", axis, 1);
            int span = (int) run.ask("axisValue", axis, 3) - least;
            for (int part = 0; part <= 32; part++) {
                ask("normalize", axis, least + (int) ((long) span * part / 32));
            }
        }
    }

    private void addGlyph(int glyph) {
        out.append("\nglyph ").append(glyph);
        for (int what = 0; what < 6; what++) {
            ask("glyphValue", glyph, what);
        }
        ask("flips", glyph);
        ask("area", glyph, -1);
        long size = run.ask("glyphValue", glyph, 1);
        for (int point = -1; point < size; point++) {
            for (int what = 0; what < 4; what++) {
                ask("position", glyph, point, what);
            }
        }
        long points = run.ask("glyphValue", glyph, 3);
        for (int k = 0; k < points; k++) {
            for (int what = 0; what < 3; what++) {
                ask("outline", glyph, k, what);
            }
        }
    }

    private void addDeltas(int glyph) {
        out.append("\ndeltas");
        long tuples = run.ask("glyphValue", glyph, 4);
        long size = run.ask("glyphValue", glyph, 1);
        for (int tuple = 0; tuple < tuples; tuple++) {
            ask("touchedCount", glyph, tuple);
            for (int point = -1; point < size; point++) {
                ask("delta", glyph, tuple, point, false);
                ask("delta", glyph, tuple, point, true);
            }
        }
    }

    private void addTouches(int glyph) {
        out.append("\ntouches");
        long tuples = run.ask("glyphValue", glyph, 4);
        long size = run.ask("glyphValue", glyph, 1);
        for (int tuple = 0; tuple < tuples; tuple++) {
            for (int point = -1; point < size; point++) {
                ask("release", glyph, tuple, point);
            }
        }
        ask("merge", glyph);
    }

    private void addScalars(int glyph) {
        out.append("\nscalars");
        long tuples = run.ask("glyphValue", glyph, 4);
        long axes = run.ask("count", 0);
        for (int axis = 0; axis < axes; axis++) {
            ask("pin", axis, false);
        }
        for (int axis = 0; axis < axes; axis++) {
            long before = run.ask("axisValue", axis, 0);
            for (int place : PLACES) {
                ask("setCoordinate", axis, place);
                for (int tuple = 0; tuple < tuples; tuple++) {
                    ask("scalar", glyph, tuple);
                }
            }
            ask("setCoordinate", axis, (int) before);
            for (int tuple = 0; tuple < tuples; tuple++) {
                ask("setRegion", glyph, tuple, axis, 0, 0, 0);
            }
        }
    }

    private void addTextAndInstances() {
        out.append("\ntext");
        ask("readLocation");
        ask("type", 'x');
        ask("readLocation");
        ask("clearText");
        long axes = run.ask("count", 0);
        long instances = run.ask("count", 2);
        for (int axis = 0; axis < axes; axis++) {
            ask("pin", axis, false);
        }
        for (int instance = 0; instance < instances; instance++) {
            ask("applyInstance", instance);
            for (int axis = 0; axis < axes; axis++) {
                ask("axisValue", axis, 0);
            }
        }
        ask("addInstance");
    }

    private void addHistory(int glyphs) {
        out.append("\nundone");
        for (int step = 0; step < 7; step++) {
            ask("undo");
            for (int glyph = 0; glyph < glyphs; glyph++) {
                ask("glyphValue", glyph, 1);
                ask("glyphValue", glyph, 4);
                ask("glyphValue", glyph, 5);
                ask("area", glyph, -1);
                ask("touchedCount", glyph, 0);
            }
        }
    }
}
