import java.util.ArrayList;
import java.util.List;
import java.util.function.ToLongFunction;

/**
 * A TableMapper for tests with more questions than calls: ahead of its 513th call, about which the document tells
 * nothing, it is made anew, and all changes are told again.
 */
final class Subject {
    private static final int MOST_CALLS = 512;

    private final List<ToLongFunction<TableMapper>> changes = new ArrayList<>();
    private TableMapper mapper = new TableMapper();
    private int calls = 0;

    long change(ToLongFunction<TableMapper> call) {
        long answer = ask(call);
        changes.add(call);
        return answer;
    }

    long ask(ToLongFunction<TableMapper> call) {
        if (calls == MOST_CALLS) {
            mapper = new TableMapper();
            for (ToLongFunction<TableMapper> change : changes) {
                change.applyAsLong(mapper);
            }
            calls = changes.size();
        }
        calls++;
        return call.applyAsLong(mapper);
    }
}
