/** The four examples of the document, call by call. */
public final class ExamplesTest {
    private ExamplesTest() {
    }

    public static void main(String[] args) {
        segmentMapsAndPinnedAxis();
        inferredDelta();
        compositeFoldedIn();
        locationFromText();
        Check.end("ExamplesTest");
    }

    private static void segmentMapsAndPinnedAxis() {
        FontInstancer f = new FontInstancer();
        Check.due("1.1", f.addAxis(100, 400, 900), 0);
        Check.due("1.2", f.addMapPair(0, 8192, 4096), 4);
        Check.due("1.3", f.normalize(0, 650), 4096);
        Check.due("1.4", f.normalize(0, 775), 10240);
        Check.due("1.5", f.normalize(0, 250), -8192);
        Check.due("1.6", f.setUser(0, 900), 16384);
        Check.due("1.7", f.axisValue(0, 0), 16384);
        Check.due("1.8", f.pin(0, true), 1);
        Check.due("1.9", f.setUser(0, 400), -1000007);
        Check.due("1.10", f.addMapPair(0, 12288, 4000), -1000005);
        Check.due("1.11", f.addMapPair(0, 0, 0), -1000005);
        Check.due("1.12", f.axisValue(0, 4), 4);
        Check.due("1.13", f.addAxis(5, 5, 5), -1000005);
        Check.due("1.14", f.addAxis(0, 0, 10), 1);
        Check.due("1.15", f.normalize(1, -3), 0);
        Check.due("1.16", f.count(0), 2);
    }

    private static void inferredDelta() {
        FontInstancer f = new FontInstancer();
        Check.due("2.1", f.addAxis(0, 0, 1000), 0);
        Check.due("2.2", f.addGlyph(false, 500), 0);
        Check.due("2.3", f.addPoint(0, 0, 0, true), 0);
        Check.due("2.4", f.addPoint(0, 100, 0, false), 1);
        Check.due("2.5", f.addPoint(0, 100, 200, false), 2);
        Check.due("2.6", f.addTuple(0), 0);
        Check.due("2.7", f.setRegion(0, 0, 0, 0, 16384, 16384), 1);
        Check.due("2.8", f.touch(0, 0, 0, 0, 0), 1);
        Check.due("2.9", f.touch(0, 0, 1, 50, 0), 1);
        Check.due("2.10", f.delta(0, 0, 2, false), 50);
        Check.due("2.11", f.touch(0, 0, -1, 60, 0), 1);
        Check.due("2.12", f.setCoordinate(0, 8192), 0);
        Check.due("2.13", f.scalar(0, 0), 134217728);
        Check.due("2.14", f.position(0, 2, 2), 125);
        Check.due("2.15", f.position(0, -1, 2), 530);
        Check.due("2.16", f.area(0, -1), 25000);
    }

    private static void compositeFoldedIn() {
        FontInstancer f = new FontInstancer();
        Check.due("3.1", f.addAxis(-10, 0, 10), 0);
        Check.due("3.2", f.addGlyph(false, 300), 0);
        Check.due("3.3", f.addPoint(0, 0, 0, true), 0);
        Check.due("3.4", f.addGlyph(true, 600), 1);
        Check.due("3.5", f.addComponent(1, 0, 10, 20), 0);
        Check.due("3.6", f.addComponent(1, 0, 200, 0), 1);
        Check.due("3.7", f.addPoint(0, 5, 5, false), -1000007);
        Check.due("3.8", f.outline(1, 1, 0), 200);
        Check.due("3.9", f.addTuple(1), 0);
        Check.due("3.10", f.touch(1, 0, 1, 30, -30), 1);
        Check.due("3.11", f.setRegion(1, 0, 0, -16384, -16384, 0), 1);
        Check.due("3.12", f.setUser(0, -5), -8192);
        Check.due("3.13", f.outline(1, 1, 1), -15);
        Check.due("3.14", f.pin(0, true), 1);
        Check.due("3.15", f.fold(1), 1);
        Check.due("3.16", f.position(1, 1, 1), -15);
    }

    private static void locationFromText() {
        FontInstancer f = new FontInstancer();
        Check.due("4.1", f.addAxis(0, 100, 200), 0);
        Check.due("4.2", f.addAxis(0, 0, 8), 1);
        Check.due("4.3", f.type('a'), 1);
        Check.due("4.4", f.type('5'), 2);
        Check.due("4.5", f.type('0'), 3);
        Check.due("4.6", f.type(';'), 4);
        Check.due("4.7", f.type('b'), 5);
        Check.due("4.8", f.type('9'), 6);
        Check.due("4.9", f.readLocation(), 2);
        Check.due("4.10", f.axisValue(0, 0), -8192);
        Check.due("4.11", f.axisValue(1, 0), 16384);
        Check.due("4.12", f.addInstance(), 0);
        Check.due("4.13", f.setCoordinate(1, 0), 16384);
        Check.due("4.14", f.applyInstance(0), 1);
        Check.due("4.15", f.type(';'), 7);
        Check.due("4.16", f.readLocation(), -107);
    }
}
