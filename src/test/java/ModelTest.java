import java.util.ArrayDeque;

/** Long runs of calls on an object and on the model: all answers are to be the same. */
public final class ModelTest {
    private static final int RUNS = 1200;
    private static final int CALLS = 512;
    private static final int[] EXTREMES = {Integer.MIN_VALUE, Integer.MIN_VALUE + 1, -1000001, -100001, -16385, -4001,
        -2001, -2, -1, 0, 1, 2, 3, 4, 5, 6, 24, 60, 96, 2001, 4001, 16385, 100001, Integer.MAX_VALUE - 1,
        Integer.MAX_VALUE};
    private static final int[] COORDINATES = {-16384, -16383, -12288, -8192, -4096, -3, -1, 0, 0, 0, 1, 2, 5, 4096, 5000,
        8192, 12288, 16383, 16384};
    private static final char[] CHARACTERS = {'a', 'a', 'b', 'b', 'c', 'd', 'e', '0', '1', '2', '5', '9', '9', '7', '3',
        ';', ';', ';', '-', '-', ' ', 'A', (char) 0, (char) 255, (char) 0x665};

    private long seed;
    private FontInstancer font;
    private Model model;
    private boolean wild;
    private final ArrayDeque<String> latest = new ArrayDeque<>();

    private ModelTest(long seed) {
        this.seed = seed * 7919 + 1;
    }

    public static void main(String[] args) {
        int runs = args.length > 0 ? Integer.parseInt(args[0]) : RUNS;
        for (int run = 0; run < runs && Check.allRight(); run++) {
            ModelTest test = new ModelTest(run);
            test.run(run);
            if (!Check.allRight()) {
                System.out.println("run " + run + ", the latest calls:");
                for (String call : test.latest) {
                    System.out.println("  " + call);
                }
            }
        }
        Check.end("ModelTest");
    }

    private int below(int bound) {
        seed = seed * 6364136223846793005L + 1442695040888963407L;
        return (int) ((seed >>> 33) % bound);
    }

    private int between(int least, int greatest) {
        return least + below(greatest - least + 1);
    }

    private boolean yes() {
        return below(2) == 0;
    }

    /** Mostly a number that is likely there, now and then another one. */
    private int index(int count) {
        if (below(wild ? 4 : 40) == 0) {
            return wild && yes() ? EXTREMES[below(EXTREMES.length)] : between(-2, count + 1);
        }
        return count <= 0 ? 0 : below(count);
    }

    private int number(int most) {
        if (below(wild ? 4 : 60) == 0) {
            return yes() ? EXTREMES[below(EXTREMES.length)] : (yes() ? 1 : -1) * between(most - 1, most + 1);
        }
        switch (below(4)) {
            case 0: return between(-3, 3);
            case 1: return 10 * between(-4, 4);
            case 2: return between(-most / 8, most / 8);
            default: return between(-most, most);
        }
    }

    private int coordinate() {
        if (below(wild ? 4 : 60) == 0) {
            return EXTREMES[below(EXTREMES.length)];
        }
        return yes() ? COORDINATES[below(COORDINATES.length)] : between(-16384, 16384);
    }

    private void run(int number) {
        font = new FontInstancer();
        model = new Model();
        wild = number % 5 == 4;
        latest.clear();
        int theme = below(4);
        for (int call = 0; call < CALLS && Check.allRight(); call++) {
            if (call < 12 && !wild) {
                start(call);
            } else {
                step(theme);
            }
        }
    }

    private void due(String call, long got, long want) {
        latest.add(call + " = " + got);
        if (latest.size() > 60) {
            latest.removeFirst();
        }
        Check.due(call, got, want);
    }

    private void dueDouble(String call, double got, double want) {
        latest.add(call + " = " + got);
        Check.dueDouble(call, got, want);
    }

    private void start(int call) {
        if (call < 3) {
            addAxis();
        } else if (call < 6) {
            addGlyph();
        } else if (call < 9) {
            addPart();
        } else {
            addTuple();
        }
    }

    private void step(int theme) {
        int kind = below(100);
        if (kind < 2) {
            addAxis();
        } else if (kind < 4) {
            addGlyph();
        } else if (kind < 14) {
            addPart();
        } else if (kind < 20) {
            addTuple();
        } else if (kind < 27) {
            region();
        } else if (kind < 38) {
            touch();
        } else if (kind < 40) {
            release();
        } else if (kind < 50) {
            setAxis();
        } else if (kind < 60) {
            askTuple();
        } else if (kind < 76) {
            askOutline();
        } else if (kind < (theme == 0 ? 92 : 84)) {
            operate();
        } else if (kind < 88) {
            askRest();
        } else if (kind < (theme == 1 ? 90 : 94)) {
            instance();
        } else {
            text();
        }
    }

    private void addAxis() {
        int least = number(100000);
        int standard = yes() ? least : least + below(300);
        int greatest = yes() ? standard : standard + below(2000);
        if (wild) {
            standard = number(100000);
        }
        due("addAxis(" + least + ", " + standard + ", " + greatest + ")",
                font.addAxis(least, standard, greatest), model.addAxis(least, standard, greatest));
    }

    private void addGlyph() {
        boolean composite = below(3) == 0;
        int advance = Math.abs(number(4000));
        due("addGlyph(" + composite + ", " + advance + ")",
                font.addGlyph(composite, advance), model.addGlyph(composite, advance));
    }

    private void addPart() {
        int g = glyph();
        int x = number(4000);
        int y = number(4000);
        if (model.glyphValue(g, 0) == 1 ? below(10) != 0 : below(20) == 0) {
            int child = index(Math.min(g, 6));
            due("addComponent(" + g + ", " + child + ", " + x + ", " + y + ")",
                    font.addComponent(g, child, x, y), model.addComponent(g, child, x, y));
        } else {
            boolean starts = below(4) == 0;
            due("addPoint(" + g + ", " + x + ", " + y + ", " + starts + ")",
                    font.addPoint(g, x, y, starts), model.addPoint(g, x, y, starts));
        }
    }

    private int glyph() {
        return index(model.count(1));
    }

    private int tuple(int g) {
        return index(model.glyphValue(g, 4));
    }

    private int axis() {
        return index(model.count(0));
    }

    private int point(int g) {
        return index(model.glyphValue(g, 1) + 1) - 1;
    }

    private void addTuple() {
        int g = glyph();
        due("addTuple(" + g + ")", font.addTuple(g), model.addTuple(g));
    }

    private void region() {
        int g = glyph();
        int t = tuple(g);
        int a = axis();
        int[][] some = {{0, 16384, 16384}, {-16384, -16384, 0}, {0, 8192, 16384}, {0, 0, 0}, {-5, 0, 5}};
        int[] r = some[below(some.length)].clone();
        if (below(3) == 0) {
            r = new int[] {coordinate(), coordinate(), coordinate()};
            if (!wild) {
                java.util.Arrays.sort(r);
            }
        }
        due("setRegion(" + g + ", " + t + ", " + a + ", " + r[0] + ", " + r[1] + ", " + r[2] + ")",
                font.setRegion(g, t, a, r[0], r[1], r[2]), model.setRegion(g, t, a, r[0], r[1], r[2]));
    }

    private void touch() {
        int g = glyph();
        int t = tuple(g);
        int p = point(g);
        int x = below(3) == 0 ? 0 : number(2000);
        int y = below(3) == 0 || (p == -1 && below(10) != 0) ? 0 : number(2000);
        due("touch(" + g + ", " + t + ", " + p + ", " + x + ", " + y + ")",
                font.touch(g, t, p, x, y), model.touch(g, t, p, x, y));
    }

    private void release() {
        int g = glyph();
        int t = tuple(g);
        int p = point(g);
        due("release(" + g + ", " + t + ", " + p + ")", font.release(g, t, p), model.release(g, t, p));
    }

    private void setAxis() {
        int a = axis();
        switch (below(5)) {
            case 0: {
                boolean pinned = yes();
                due("pin(" + a + ", " + pinned + ")", font.pin(a, pinned), model.pin(a, pinned));
                break;
            }
            case 1: {
                int value = number(100000);
                due("setUser(" + a + ", " + value + ")", font.setUser(a, value), model.setUser(a, value));
                break;
            }
            case 2: {
                int from = coordinate();
                int to = yes() ? from : coordinate();
                due("addMapPair(" + a + ", " + from + ", " + to + ")",
                        font.addMapPair(a, from, to), model.addMapPair(a, from, to));
                break;
            }
            default: {
                int c = coordinate();
                due("setCoordinate(" + a + ", " + c + ")", font.setCoordinate(a, c), model.setCoordinate(a, c));
                break;
            }
        }
    }

    private void askTuple() {
        int g = glyph();
        int t = tuple(g);
        int p = point(g);
        boolean vertical = yes();
        switch (below(5)) {
            case 0:
                due("scalar(" + g + ", " + t + ")", font.scalar(g, t), model.scalar(g, t));
                dueDouble("share(" + g + ", " + t + ")", font.share(g, t), model.share(g, t));
                break;
            case 1:
                due("touchedCount(" + g + ", " + t + ")", font.touchedCount(g, t), model.touchedCount(g, t));
                break;
            default:
                due("delta(" + g + ", " + t + ", " + p + ", " + vertical + ")",
                        font.delta(g, t, p, vertical), model.delta(g, t, p, vertical));
                break;
        }
    }

    private void askOutline() {
        int g = glyph();
        int p = point(g);
        int k = index(model.glyphValue(g, 3));
        int what = index(4);
        boolean vertical = yes();
        int contour = index(model.glyphValue(g, 2) + 1) - 1;
        switch (below(6)) {
            case 0:
                due("position(" + g + ", " + p + ", " + what + ")",
                        font.position(g, p, what), model.position(g, p, what));
                break;
            case 1:
            case 2:
                due("outline(" + g + ", " + k + ", " + what + ")",
                        font.outline(g, k, what), model.outline(g, k, what));
                break;
            case 3:
                due("box(" + g + ", " + what + ")", font.box(g, what), model.box(g, what));
                break;
            case 4:
                dueDouble("middle(" + g + ", " + vertical + ")", font.middle(g, vertical), model.middle(g, vertical));
                break;
            default:
                due("area(" + g + ", " + contour + ")", font.area(g, contour), model.area(g, contour));
                due("flips(" + g + ")", font.flips(g), model.flips(g));
                break;
        }
    }

    private void operate() {
        int g = glyph();
        int t = tuple(g);
        switch (below(6)) {
            case 0:
                due("merge(" + g + ")", font.merge(g), model.merge(g));
                break;
            case 1:
            case 2:
                due("compact(" + g + ", " + t + ")", font.compact(g, t), model.compact(g, t));
                break;
            case 3:
                due("fold(" + g + ")", font.fold(g), model.fold(g));
                break;
            case 4:
                due("prune(" + g + ")", font.prune(g), model.prune(g));
                break;
            default:
                due("undo()", font.undo(), model.undo());
                break;
        }
        sameGlyph(g);
    }

    /** All that can be asked of a glyph, after an operation on it. */
    private void sameGlyph(int g) {
        for (int what = 0; what < 6; what++) {
            due("glyphValue(" + g + ", " + what + ")", font.glyphValue(g, what), model.glyphValue(g, what));
        }
        for (int p = -1; p < model.glyphValue(g, 1); p++) {
            for (int what = 0; what < 4; what++) {
                due("position(" + g + ", " + p + ", " + what + ")",
                        font.position(g, p, what), model.position(g, p, what));
            }
            for (int t = 0; t < model.glyphValue(g, 4); t++) {
                due("delta(" + g + ", " + t + ", " + p + ", false)",
                        font.delta(g, t, p, false), model.delta(g, t, p, false));
                due("delta(" + g + ", " + t + ", " + p + ", true)",
                        font.delta(g, t, p, true), model.delta(g, t, p, true));
            }
        }
        for (int t = 0; t < model.glyphValue(g, 4); t++) {
            due("touchedCount(" + g + ", " + t + ")", font.touchedCount(g, t), model.touchedCount(g, t));
        }
    }

    private void askRest() {
        int a = axis();
        int g = glyph();
        int what = index(6);
        int value = number(100000);
        switch (below(5)) {
            case 0:
                due("axisValue(" + a + ", " + what + ")", font.axisValue(a, what), model.axisValue(a, what));
                break;
            case 1:
                due("normalize(" + a + ", " + value + ")", font.normalize(a, value), model.normalize(a, value));
                break;
            case 2:
                due("glyphValue(" + g + ", " + what + ")", font.glyphValue(g, what), model.glyphValue(g, what));
                break;
            case 3:
                due("count(" + what + ")", font.count(what), model.count(what));
                break;
            default:
                due("widest(" + g + ", " + a + ")", font.widest(g, a), model.widest(g, a));
                break;
        }
    }

    private void instance() {
        switch (below(3)) {
            case 0:
                due("addInstance()", font.addInstance(), model.addInstance());
                break;
            case 1: {
                int i = index(model.count(2));
                due("applyInstance(" + i + ")", font.applyInstance(i), model.applyInstance(i));
                break;
            }
            default:
                due("nearestInstance()", font.nearestInstance(), model.nearestInstance());
                break;
        }
        for (int a = 0; a < model.count(0); a++) {
            due("axisValue(" + a + ", 0)", font.axisValue(a, 0), model.axisValue(a, 0));
        }
    }

    private void text() {
        int kind = below(10);
        if (kind == 0) {
            due("clearText()", font.clearText(), model.clearText());
        } else if (kind < 7) {
            char c = CHARACTERS[below(CHARACTERS.length)];
            due("type(" + (int) c + ")", font.type(c), model.type(c));
        } else {
            typeLocation();
            due("readLocation()", font.readLocation(), model.readLocation());
            for (int a = 0; a < model.count(0); a++) {
                due("axisValue(" + a + ", 0)", font.axisValue(a, 0), model.axisValue(a, 0));
            }
        }
    }

    private void typeLocation() {
        if (below(3) == 0) {
            return;
        }
        due("clearText()", font.clearText(), model.clearText());
        StringBuilder location = new StringBuilder();
        int items = between(1, 4);
        int first = below(4);
        for (int item = 0; item < items; item++) {
            location.append(item > 0 ? ";" : "").append((char) ('a' + (first + item) % 4)).append(yes() ? "-" : "");
            location.append(yes() ? number(999) : below(1000000));
        }
        for (int at = 0; at < location.length(); at++) {
            char c = below(60) == 0 ? CHARACTERS[below(CHARACTERS.length)] : location.charAt(at);
            due("type(" + (int) c + ")", font.type(c), model.type(c));
        }
    }
}
