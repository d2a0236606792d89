import java.io.IOException;
import java.nio.file.Files;
import java.nio.file.Path;
import java.util.List;
import java.util.regex.Matcher;
import java.util.regex.Pattern;

/** The four examples, call by call, as they stand in the document. */
public final class ExamplesTest {
    private static final Path DOCUMENT = Path.of("../shared/DOC.md");
    private static final Pattern EXAMPLE = Pattern.compile("(\\d)\\. [^:]*: (.*)\\.");

    private ExamplesTest() {
    }

    public static void main(String[] args) throws IOException {
        int examples = 0;
        for (String line : Files.readAllLines(DOCUMENT)) {
            Matcher example = EXAMPLE.matcher(line);
            if (example.matches()) {
                examples++;
                run("example " + example.group(1), Call.all(example.group(2)));
            }
        }
        Check.due("examples in the document", examples, 4);
        Check.end("ExamplesTest");
    }

    private static void run(String label, List<Call> calls) {
        Check.due(label + ", calls", calls.size(), 16);
        Run run = new Run();
        for (Call call : calls) {
            Number answer = run.answer(call);
            Check.dueText(label + ", " + call.text,
                    call.isRight(answer) ? call.dueText() : answer.toString(), call.dueText());
        }
    }
}
