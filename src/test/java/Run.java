import java.lang.reflect.InvocationTargetException;
import java.lang.reflect.Method;
import java.util.List;

/** One object of the class, which is not asked more often than the document allows. */
final class Run {
    private static final int MOST_CALLS = 512;

    private final FontInstancer font = new FontInstancer();
    private int calls;

    static Run after(List<Call> calls) {
        Run run = new Run();
        for (Call call : calls) {
            run.answer(call);
        }
        return run;
    }

    Number answer(Call call) {
        return invoke(call.method, call.arguments);
    }

    long ask(String name, Object... arguments) {
        return invoke(Call.method(name), arguments).longValue();
    }

    private Number invoke(Method method, Object[] arguments) {
        calls++;
        if (calls > MOST_CALLS) {
            throw new IllegalStateException("more than " + MOST_CALLS + " calls of one object");
        }
        try {
            return (Number) method.invoke(font, arguments);
        } catch (InvocationTargetException thrown) {
            throw new IllegalStateException(method.getName() + " threw " + thrown.getCause(), thrown);
        } catch (IllegalAccessException impossible) {
            throw new IllegalStateException(impossible);
        }
    }
}
