/** Promises 28 to 32: merging, compacting, folding, pruning, and undoing them. */
public final class OperationsTest {
    private static final int NO_GLYPH = FontInstancer.NO_SUCH_GLYPH;
    private static final int NO_TUPLE = FontInstancer.NO_SUCH_TUPLE;
    private static final int NONE = FontInstancer.NONE;

    private OperationsTest() {
    }

    public static void main(String[] args) {
        errorsAreNotRemembered();
        merge();
        mergeComparesWholeRegions();
        mergeOfComposite();
        mergeAfterReleases();
        compact();
        compactInOrder();
        compactOfComposite();
        compactWithEqualBase();
        fold();
        foldKeepsInferredDeltas();
        foldOfSeveralAxes();
        foldOfComposite();
        foldRoundsTheSum();
        prune();
        undo();
        undoRestoresAll();
        undoForgetsTheOldest();
        undoAndLaterAxes();
        Check.end("OperationsTest");
    }

    /** Two axes, and glyph 0 with a line of points at x = 0, 10, 20, 30. */
    private static FontInstancer line() {
        FontInstancer f = new FontInstancer();
        f.addAxis(-100, 0, 100);
        f.addAxis(-100, 0, 100);
        f.addGlyph(false, 500);
        for (int point = 0; point < 4; point++) {
            f.addPoint(0, 10 * point, 0, false);
        }
        return f;
    }

    private static FontInstancer twoComponents() {
        FontInstancer f = line();
        f.addGlyph(true, 700);
        f.addComponent(1, 0, 100, 200);
        f.addComponent(1, 0, 300, 400);
        return f;
    }

    private static void errorsAreNotRemembered() {
        FontInstancer f = line();
        Check.due("28 no glyph", f.merge(1), NO_GLYPH);
        Check.due("28 negative glyph", f.merge(-1), NO_GLYPH);
        Check.due("29 no glyph first", f.compact(1, 9), NO_GLYPH);
        Check.due("29 then no tuple", f.compact(0, 0), NO_TUPLE);
        Check.due("29 negative tuple", f.compact(0, -1), NO_TUPLE);
        Check.due("30 no glyph", f.fold(1), NO_GLYPH);
        Check.due("30 negative glyph", f.fold(-1), NO_GLYPH);
        Check.due("31 no glyph", f.prune(1), NO_GLYPH);
        Check.due("31 negative glyph", f.prune(-1), NO_GLYPH);
        Check.due("32 none is remembered", f.count(3), 0);
        Check.due("32 none", f.undo(), NONE);
        Check.due("28 no tuples", f.merge(0), 0);
        Check.due("30 no tuples", f.fold(0), 0);
        Check.due("31 no tuples", f.prune(0), 0);
        Check.due("32 three that changed nothing", f.count(3), 3);
    }

    private static void merge() {
        FontInstancer f = line();
        for (int tuple = 0; tuple < 5; tuple++) {
            f.addTuple(0);
        }
        // Tuples 0, 2 and 4 have the same region, 1 and 3 regions of their own.
        f.setRegion(0, 0, 0, 0, 100, 200);
        f.setRegion(0, 1, 0, 0, 100, 201);
        f.setRegion(0, 2, 0, 0, 100, 200);
        f.setRegion(0, 3, 0, 1, 100, 200);
        f.setRegion(0, 4, 0, 0, 100, 200);
        f.touch(0, 0, 0, 0, 0);
        f.touch(0, 0, 3, 30, 3);
        f.touch(0, 1, 0, 1111, 0);
        f.touch(0, 2, 1, 100, 7);
        f.touch(0, 2, -1, 5, 0);
        f.touch(0, 3, 0, 1333, 0);
        f.touch(0, 4, 2, -1, 0);
        Check.due("28 two are removed", f.merge(0), 2);
        Check.due("28 three stay", f.glyphValue(0, 4), 3);
        int[] x = {0 + 100 - 1, 10 + 100 - 1, 20 + 100 - 1, 30 + 100 - 1};
        for (int point = 0; point < 4; point++) {
            Check.due("28 sum at point " + point, f.delta(0, 0, point, false), x[point]);
        }
        Check.due("28 y, equal base, other deltas", f.delta(0, 0, 1, true), 7);
        Check.due("28 y of a touched point", f.delta(0, 0, 3, true), 10);
        Check.due("28 the advance", f.delta(0, 0, -1, false), 5);
        Check.due("28 all are touched", f.touchedCount(0, 0), 5);
        Check.due("28 tuple 1 stays", f.delta(0, 1, 0, false), 1111);
        Check.due("28 and touches what it did", f.touchedCount(0, 1), 1);
        Check.due("28 tuple 3 is renumbered", f.delta(0, 2, 0, false), 1333);
        Check.due("28 with its region", f.setRegion(0, 2, 0, 1, 100, 200), 0);
        Check.due("28 no more to merge", f.merge(0), 0);
        f.addTuple(0);
        f.setRegion(0, 3, 0, 0, 100, 200);
        f.touch(0, 3, 0, 2000, 0);
        Check.due("28 again", f.merge(0), 1);
        Check.due("28 a sum beyond 2000", f.delta(0, 0, 1, false), 2109);
        Check.due("28 released, it is inferred from sums", f.release(0, 0, 1), 1);
        Check.due("28 between the others", f.delta(0, 0, 1, false), 2109);
    }

    private static void mergeComparesWholeRegions() {
        FontInstancer f = line();
        f.addTuple(0);
        f.addTuple(0);
        f.setRegion(0, 0, 1, 0, 0, 5);
        Check.due("28 an end without a peak differs", f.merge(0), 0);
        f.setRegion(0, 1, 1, 0, 0, 5);
        f.setRegion(0, 1, 0, -1, 0, 0);
        Check.due("28 a start without a peak differs", f.merge(0), 0);
        f.setRegion(0, 1, 0, 0, 0, 0);
        f.pin(0, true);
        Check.due("28 the same", f.merge(0), 1);
        Check.due("28 all points get touched", f.touchedCount(0, 0), 5);
        Check.due("28 by 0", f.delta(0, 0, 2, false), 0);
    }

    private static void mergeOfComposite() {
        FontInstancer f = twoComponents();
        f.addTuple(1);
        f.addTuple(1);
        f.addTuple(1);
        f.touch(1, 0, 0, 1, 2);
        f.touch(1, 1, 1, 3, 4);
        f.touch(1, 2, 0, 5, 6);
        f.touch(1, 2, -1, 9, 0);
        f.setRegion(1, 1, 1, 3, 3, 3);
        Check.due("28 composite", f.merge(1), 1);
        Check.due("28 a sum", f.delta(1, 0, 0, true), 8);
        Check.due("28 nothing is inferred", f.delta(1, 0, 1, true), 0);
        Check.due("28 the components and the advance", f.touchedCount(1, 0), 3);
        Check.due("28 the other one", f.delta(1, 1, 1, false), 3);
    }

    private static void mergeAfterReleases() {
        FontInstancer f = line();
        f.addTuple(0);
        f.addTuple(0);
        for (int point = -1; point < 4; point++) {
            f.touch(0, 0, point, 50, 0);
            f.touch(0, 1, point, 60, 0);
            f.release(0, 0, point);
            f.release(0, 1, point);
        }
        f.touch(0, 0, 2, 3, 0);
        Check.due("28 after releases", f.merge(0), 1);
        Check.due("28 no old delta of the advance", f.delta(0, 0, -1, false), 0);
        Check.due("28 no old delta of a point", f.delta(0, 0, 1, false), 3);
    }

    private static void compact() {
        FontInstancer f = line();
        f.addTuple(0);
        f.addTuple(0);
        for (int point = 0; point < 4; point++) {
            f.touch(0, 0, point, 7, -7);
        }
        f.touch(0, 0, -1, 1, 0);
        f.touch(0, 1, 0, 0, 0);
        Check.due("29 all but the last", f.compact(0, 0), 3);
        Check.due("29 which stays", f.release(0, 0, 3), 1);
        Check.due("29 with the advance", f.release(0, 0, -1), 1);
        Check.due("29 the other tuple stays", f.touchedCount(0, 1), 1);
        Check.due("29 a touched (0, 0)", f.compact(0, 1), 1);
        Check.due("29 nothing is left", f.touchedCount(0, 1), 0);
        Check.due("29 nothing to release", f.compact(0, 1), 0);
        f.touch(0, 1, -1, 0, 0);
        f.touch(0, 1, 0, 0, 1);
        f.touch(0, 1, 3, 0, 0);
        Check.due("29 the advance by 0", f.compact(0, 1), 1);
        Check.due("29 y counts too", f.touchedCount(0, 1), 2);
        f.touch(0, 1, -1, 9, 0);
        f.release(0, 1, -1);
        f.touch(0, 1, 1, 0, 0);
        Check.due("29 an advance released before", f.compact(0, 1), 1);
    }

    private static void compactInOrder() {
        FontInstancer f = line();
        f.addTuple(0);
        f.touch(0, 0, 0, 0, 0);
        f.touch(0, 0, 1, 5, 0);
        f.touch(0, 0, 2, 10, 0);
        f.touch(0, 0, 3, 16, 0);
        // Without point 1 it would be 5 again; without 1 and 2 points 1 and 2 would be 5 and 11.
        Check.due("29 after a released one", f.compact(0, 0), 1);
        Check.due("29 point 1", f.release(0, 0, 1), 0);
        Check.due("29 not point 2", f.delta(0, 0, 2, false), 10);
        FontInstancer g = line();
        g.addTuple(0);
        g.touch(0, 0, 0, 4, 0);
        g.touch(0, 0, 1, 4, 0);
        Check.due("29 an untouched point would change", g.compact(0, 0), 1);
        Check.due("29 the first is released", g.release(0, 0, 0), 0);
        Check.due("29 the second is not", g.release(0, 0, 1), 1);
        FontInstancer h = line();
        h.addTuple(0);
        h.touch(0, 0, 0, 4, 0);
        h.touch(0, 0, 1, 0, 0);
        h.touch(0, 0, 3, 0, 0);
        // Behind point 1 all is 0 without point 3; before it point 1 is needed.
        Check.due("29 one is needed, one is not", h.compact(0, 0), 1);
        Check.due("29 the needed one", h.release(0, 0, 1), 1);
        Check.due("29 the needless one", h.release(0, 0, 3), 0);
    }

    private static void compactOfComposite() {
        FontInstancer f = twoComponents();
        f.addTuple(1);
        f.touch(1, 0, 0, 0, 0);
        f.touch(1, 0, 1, 0, 5);
        f.touch(1, 0, -1, 0, 0);
        Check.due("29 a component by (0, 0), and the advance", f.compact(1, 0), 2);
        Check.due("29 the other one", f.delta(1, 0, 1, true), 5);
        f.touch(1, 0, 0, 0, 5);
        f.touch(1, 0, -1, -1, 0);
        Check.due("29 equal deltas stay", f.compact(1, 0), 0);
    }

    private static void compactWithEqualBase() {
        FontInstancer f = line();
        f.addTuple(0);
        f.touch(0, 0, 0, 10, 3);
        f.touch(0, 0, 1, 20, 0);
        f.touch(0, 0, 2, 30, 4);
        // In y all base coordinates are equal, so that the point between gets 0.
        Check.due("29 0 between other deltas", f.compact(0, 0), 1);
        Check.due("29 it is released", f.release(0, 0, 1), 0);
        Check.due("29 the others stay", f.touchedCount(0, 0), 2);
    }

    private static void fold() {
        FontInstancer f = line();
        for (int tuple = 0; tuple < 3; tuple++) {
            f.addTuple(0);
        }
        f.setRegion(0, 0, 0, 0, 16384, 16384);
        f.setRegion(0, 1, 1, 0, 16384, 16384);
        f.touch(0, 0, 0, 50, 10);
        f.touch(0, 1, 1, 200, 100);
        f.touch(0, 2, 2, 1, 1);
        f.touch(0, 0, -1, 40, 0);
        f.setCoordinate(0, 8192);
        f.setCoordinate(1, 8192);
        Check.due("30 only the tuple without a peak", f.fold(0), 1);
        Check.due("30 it stands in the base", f.position(0, 3, 0), 31);
        Check.due("30 the advance does not move", f.position(0, -1, 0), 500);
        Check.due("30 others touch all", f.touchedCount(0, 0), 5);
        Check.due("30 all of them", f.touchedCount(0, 1), 5);
        f.pin(0, true);
        Check.due("30 the tuple of the pinned axis", f.fold(0), 1);
        Check.due("30 x", f.position(0, 0, 0), 26);
        Check.due("30 y", f.position(0, 0, 1), 6);
        Check.due("30 the advance", f.position(0, -1, 0), 520);
        Check.due("30 the advance's value", f.glyphValue(0, 5), 520);
        Check.due("30 the one that stays", f.delta(0, 0, 3, true), 100);
        Check.due("30 at the location", f.position(0, 0, 2), 126);
        f.pin(0, false);
        f.setCoordinate(0, 0);
        Check.due("30 folded for good", f.position(0, 0, 2), 126);
        Check.due("30 nothing to fold", f.fold(0), 0);
    }

    private static void foldKeepsInferredDeltas() {
        FontInstancer f = line();
        f.addTuple(0);
        f.addTuple(0);
        f.setRegion(0, 0, 0, 0, 16384, 16384);
        f.setRegion(0, 1, 1, 0, 16384, 16384);
        f.touch(0, 0, 0, 0, 0);
        f.touch(0, 0, 3, 900, 0);
        f.touch(0, 1, 0, 0, 0);
        f.touch(0, 1, 3, 90, 30);
        Check.due("30 nothing is pinned", f.fold(0), 0);
        Check.due("30 then nothing gets touched", f.touchedCount(0, 1), 2);
        f.pin(0, true);
        f.release(0, 0, 0);
        f.touch(0, 0, 0, 0, 0);
        f.pin(0, false);
        f.setCoordinate(0, 16384);
        f.pin(0, true);
        Check.due("30 folded", f.fold(0), 1);
        Check.due("30 by inferred deltas", f.position(0, 1, 0), 310);
        Check.due("30 not by moved neighbours", f.position(0, 2, 0), 620);
        Check.due("30 deltas as they were", f.delta(0, 0, 1, false), 30);
        Check.due("30 also between equal bases", f.delta(0, 0, 1, true), 0);
        Check.due("30 given now", f.touchedCount(0, 0), 5);
        f.release(0, 0, 1);
        Check.due("30 released, it is inferred from the new base", f.delta(0, 0, 1, false), 30);
        f.touch(0, 0, 2, 0, 0);
        Check.due("30 again", f.delta(0, 0, 1, false), 0);
    }

    private static void foldOfSeveralAxes() {
        FontInstancer f = line();
        f.addTuple(0);
        f.setRegion(0, 0, 0, 0, 16384, 16384);
        f.setRegion(0, 0, 1, -16384, -16384, 0);
        f.touch(0, 0, 0, 100, 0);
        f.setCoordinate(0, 8192);
        f.setCoordinate(1, -8192);
        f.pin(0, true);
        Check.due("30 one of two axes", f.fold(0), 0);
        f.pin(1, true);
        Check.due("30 both axes", f.fold(0), 1);
        Check.due("30 by the scalar of both", f.position(0, 3, 0), 55);
        f.addTuple(0);
        f.setRegion(0, 0, 1, -9, 0, 9);
        f.touch(0, 0, 0, 100, 0);
        f.pin(0, false);
        f.pin(1, false);
        Check.due("30 a region without a peak", f.fold(0), 1);
        Check.due("30 with the whole scalar", f.position(0, 3, 0), 155);
    }

    private static void foldOfComposite() {
        FontInstancer f = twoComponents();
        f.addTuple(1);
        f.addTuple(1);
        f.touch(1, 0, 0, 11, 12);
        f.touch(1, 0, -1, 13, 0);
        f.setRegion(1, 1, 0, 0, 16384, 16384);
        f.touch(1, 1, 1, 5, 5);
        Check.due("30 composite", f.fold(1), 1);
        Check.due("30 a component", f.position(1, 0, 0), 111);
        Check.due("30 in y", f.position(1, 0, 1), 212);
        Check.due("30 another component", f.position(1, 1, 0), 300);
        Check.due("30 its advance", f.position(1, -1, 0), 713);
        Check.due("30 other tuples touch what they did", f.touchedCount(1, 0), 1);
        Check.due("30 the component's glyph stays", f.position(0, 1, 0), 10);
    }

    private static void foldRoundsTheSum() {
        FontInstancer f = line();
        for (int tuple = 0; tuple < 2; tuple++) {
            f.addTuple(0);
            f.setRegion(0, tuple, 0, 0, 16384, 16384);
            f.touch(0, tuple, 0, 1, -1);
        }
        f.setCoordinate(0, 8192);
        f.pin(0, true);
        Check.due("30 two tuples", f.fold(0), 2);
        Check.due("30 their sum", f.position(0, 1, 0), 11);
        Check.due("30 a negative sum", f.position(0, 1, 1), -1);
        f.addTuple(0);
        f.setRegion(0, 0, 0, 0, 16384, 16384);
        f.touch(0, 0, 0, 1, -1);
        f.touch(0, 0, -1, -3, 0);
        f.fold(0);
        Check.due("30 a half goes up", f.position(0, 1, 0), 12);
        Check.due("30 a negative half goes up", f.position(0, 1, 1), -1);
        Check.due("30 so does the advance", f.position(0, -1, 0), 499);
    }

    private static void prune() {
        FontInstancer f = line();
        for (int tuple = 0; tuple < 5; tuple++) {
            f.addTuple(0);
        }
        f.touch(0, 0, 0, 0, 0);
        f.touch(0, 1, 3, 0, 1);
        f.touch(0, 3, -1, 1, 0);
        f.touch(0, 4, -1, 0, 0);
        f.setRegion(0, 4, 0, 0, 9, 9);
        Check.due("31 three move nothing", f.prune(0), 3);
        Check.due("31 the one that moves a point", f.delta(0, 0, 3, true), 1);
        Check.due("31 the one that moves the advance", f.delta(0, 1, -1, false), 1);
        Check.due("31 no more", f.prune(0), 0);
        f.touch(0, 0, 3, -1, 0);
        Check.due("31 x alone", f.prune(0), 0);
        f.setCoordinate(0, 100);
        f.setRegion(0, 0, 0, -9, -9, -9);
        Check.due("31 a scalar of 0 is no matter", f.prune(0), 0);
        FontInstancer g = twoComponents();
        g.addTuple(1);
        g.addTuple(1);
        g.touch(1, 1, 1, 0, 2);
        Check.due("31 composite", g.prune(1), 1);
        Check.due("31 the one that stays", g.delta(1, 0, 1, true), 2);
    }

    private static void undo() {
        FontInstancer f = twoComponents();
        f.addTuple(0);
        f.touch(0, 0, 0, 5, 5);
        f.prune(1);
        f.fold(0);
        Check.due("32 two are remembered", f.count(3), 2);
        Check.due("32 folded", f.position(0, 0, 0), 5);
        Check.due("32 the latest", f.undo(), 0);
        Check.due("32 unfolded", f.position(0, 0, 0), 0);
        Check.due("32 the tuple is there", f.delta(0, 0, 0, false), 5);
        Check.due("32 one is left", f.count(3), 1);
        Check.due("32 the other glyph", f.undo(), 1);
        Check.due("32 none", f.undo(), NONE);
        Check.due("32 none again", f.undo(), NONE);
        Check.due("32 still none", f.count(3), 0);
        f.setCoordinate(0, 5);
        f.pin(0, true);
        f.compact(0, 0);
        f.undo();
        Check.due("32 coordinates are not undone", f.axisValue(0, 0), 5);
    }

    private static void undoRestoresAll() {
        String[] names = {"merge", "compact", "fold", "prune"};
        for (int operation = 0; operation < 4; operation++) {
            FontInstancer f = twoComponents();
            for (int tuple = 0; tuple < 4; tuple++) {
                f.addTuple(0);
                f.touch(0, tuple, tuple, tuple / 2 * 7, tuple / 2);
                f.touch(0, tuple, -1, tuple / 2, 0);
            }
            f.setRegion(0, 3, 1, 1, 2, 3);
            String before = Dump.of(f);
            operate(f, operation, 0);
            f.touch(0, 0, 1, 999, 999);
            f.addTuple(0);
            f.setRegion(0, 0, 1, 3, 4, 5);
            Check.due("32 " + names[operation] + " undone", f.undo(), 0);
            Check.dueText("32 all is as before " + names[operation], Dump.of(f), before);
            Check.due("32 the region too", f.setRegion(0, 3, 1, 1, 2, 3), 0);
        }
        FontInstancer g = line();
        g.merge(0);
        g.addPoint(0, 7, 7, true);
        g.undo();
        Check.due("32 later points go", g.glyphValue(0, 1), 4);
        Check.due("32 and their contours", g.glyphValue(0, 2), 1);
        Check.due("32 a new point", g.addPoint(0, 8, 8, false), 4);
        Check.due("32 in the old contour", g.outline(0, 4, 2), 0);
    }

    private static void operate(FontInstancer f, int operation, int glyph) {
        switch (operation) {
            case 0: f.merge(glyph); break;
            case 1: f.compact(glyph, 0); break;
            case 2: f.fold(glyph); break;
            default: f.prune(glyph); break;
        }
    }

    private static void undoForgetsTheOldest() {
        FontInstancer f = line();
        for (int operation = 0; operation < 8; operation++) {
            f.addTuple(0);
            f.touch(0, 0, 0, 1, 0);
            Check.due("30 fold " + operation, f.fold(0), 1);
            Check.due("32 remembered", f.count(3), Math.min(6, operation + 1));
        }
        Check.due("32 all folds", f.position(0, 0, 0), 8);
        for (int step = 0; step < 6; step++) {
            Check.due("32 undo " + step, f.undo(), 0);
            Check.due("32 one fold less", f.position(0, 0, 0), 7 - step);
            Check.due("32 one less", f.count(3), 5 - step);
        }
        Check.due("32 the oldest are forgotten", f.undo(), NONE);
        Check.due("32 and stand", f.position(0, 0, 0), 2);
        FontInstancer g = twoComponents();
        int[] glyphs = {0, 0, 1, 1, 0, 1, 0, 0};
        for (int glyph : glyphs) {
            g.prune(glyph);
        }
        for (int step = 7; step > 1; step--) {
            Check.due("32 the glyph of step " + step, g.undo(), glyphs[step]);
        }
    }

    private static void undoAndLaterAxes() {
        FontInstancer f = line();
        f.addTuple(0);
        f.merge(0);
        f.addAxis(0, 0, 9);
        f.setRegion(0, 0, 2, 0, 5, 5);
        f.undo();
        Check.due("32 a later axis has 0 in what comes back", f.setRegion(0, 0, 2, 0, 0, 0), 0);
        Check.due("32 the axis stays", f.count(0), 3);
    }
}
