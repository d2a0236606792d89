import java.util.ArrayList;
import java.util.List;

/** A test of a sentence of the document: calls on an object, and that the refused ones change nothing. */
final class Boundary {
    private static final Document DOCUMENT = new Document();

    private final String label;
    private final List<Call> done = new ArrayList<>();
    private Run run = new Run();

    private Boundary(String label) {
        this.label = label;
    }

    /** Begins the test of these words of a promise, or of the description (promise 0), with a new object. */
    static Boundary says(int promise, String... words) {
        String where = promise == 0 ? "description" : "promise " + promise;
        for (String word : words) {
            Check.due(where + " says: " + word, DOCUMENT.quote(promise, word) ? 1 : 0, 1);
        }
        return new Boundary(where + ", \"" + words[0] + "\"");
    }

    static void everySentenceIsQuoted() {
        Check.dueText("sentences without a test", String.join("\n", DOCUMENT.unquoted()), "");
    }

    /** Goes on with a new object. */
    Boundary anew() {
        done.clear();
        run = new Run();
        return this;
    }

    /** Makes the calls that stand in the lines; one whose answer is not told must not answer an error. */
    Boundary runs(String lines) {
        for (Call call : Call.all(lines)) {
            make(call, call.isRefused());
        }
        return this;
    }

    /** Makes calls that answer something but change nothing. */
    Boundary asks(String lines) {
        for (Call call : Call.all(lines)) {
            make(call, true);
        }
        return this;
    }

    /** Makes calls after all of which everything is as it was before them. */
    Boundary takesBack(String lines) {
        List<Call> before = new ArrayList<>(done);
        runs(lines);
        Check.dueText(label + ": what is answered after " + lines.trim().replace('\n', ' '),
                Probes.of(() -> Run.after(done)), Probes.of(() -> Run.after(before)));
        return this;
    }

    private void make(Call call, boolean changesNothing) {
        Number answer = run.answer(call);
        Check.dueText(label + ": " + call.text,
                call.isRight(answer) ? call.dueText() : answer.toString(), call.dueText());
        if (changesNothing) {
            changesNothing(call);
        }
        done.add(call);
    }

    private void changesNothing(Call call) {
        List<Call> with = new ArrayList<>(done);
        with.add(call);
        Check.dueText(label + ": what is answered after " + call.text,
                Probes.of(() -> Run.after(with)), Probes.of(() -> Run.after(done)));
    }
}
