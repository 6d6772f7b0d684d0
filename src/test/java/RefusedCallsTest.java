import java.util.ArrayList;
import java.util.List;

/**
 * "A call that is refused changes nothing.": each refused call is put between a run that brings
 * threads into all states and a run that shows what is otherwise hidden (offers, windows, wanted
 * pages, limits, the order of those that wait, pagers). All answers must be those of a second
 * object that never saw the refused call.
 */
public final class RefusedCallsTest {
    private static final Due due = new Due("RefusedCallsTest");

    private static final String[] NO_THREADS = {"MIN", "-2", "-1", "7", "8", "MAX"};
    private static final String[] NOT_RUNNING = {"1", "2", "3", "4", "5", "6"};
    private static final String[] NO_PAGES = {"MIN", "-2", "16", "MAX"};
    private static final String[] NO_LEVELS = {"MIN", "-1", "0", "3", "MAX"};
    private static final String[] NO_LIMITS = {"MIN", "-2", "101", "MAX"};

    /** The limits. */
    private static final String TICKS = """
        tick(); state(1); state(2); state(3); tick(); state(1); state(2); state(3); tick(); state(1); state(2); state(3)
        tick(); state(1); state(2); state(3); tick(); outcome(1); outcome(2); outcome(3); tick()
        """;

    /** That thread 2 receives from any. */
    private static final String FROM_ANY = "3 x tick(); state(1); send(1, 2, 0); state(2); sender(2); mapping(2, 5)";

    /** The offers and windows of threads whose waits end with a time or a deletion. */
    private static final String LATER = """
        5 x tick(); window(0, 12); receive(0, 1, -1); send(1, 0, 0); mapping(0, 12); window(0, 11); receive(0, 3, -1)
        send(3, 0, 0)
        mapping(0, 11); mapping(3, 3); receive(2, 0, -1); send(0, 2, 0); mapping(2, 5); receive(1, 0, -1); offer(0, 5, 1, false)
        send(0, 1, 0); mapping(1, 2); delete(6); spawn(1, -1); state(6); delete(5); delete(4); spawn(4, -1)
        access(4, 8, false, 0)
        """;

    public static void main(String[] args) {
        List<String> refused = refusedCalls();
        for (String call : refused) {
            changesNothing(Texts.MIXED, call);
        }
        changesNothing(Texts.EIGHT_THREADS, "spawn(0, -1) = -1");
        changesNothing(Texts.EIGHT_THREADS, "spawn(5, 7) = -1");
        StringBuilder all = new StringBuilder();
        for (String call : refused) {
            all.append(call).append('\n');
        }
        for (String after : new String[] {Texts.MEETINGS, TICKS, FROM_ANY, LATER}) {
            sameAnswers(Texts.MIXED, all.toString(), after);
        }
        System.out.println(refused.size() + " refused calls");
        due.end();
    }

    private static void changesNothing(String before, String call) {
        for (String after : new String[] {Texts.everything(), Texts.MEETINGS, TICKS, FROM_ANY, LATER}) {
            sameAnswers(before, call, after);
        }
    }

    /** After must answer the same whether the refused calls were there or not. */
    private static void sameAnswers(String before, String refused, String after) {
        Script first = new Script(before);
        Script second = new Script(refused);
        Script third = new Script(after);
        PagerKernel touched = new PagerKernel();
        PagerKernel untouched = new PagerKernel();
        first.run(touched, due, "before");
        first.run(untouched, due, "before");
        second.run(touched, due, "refused");
        long[] got = third.answers(touched);
        long[] want = third.answers(untouched);
        for (int n = 0; n < got.length; n++) {
            String label = second.calls().size() == 1 ? second.calls().get(0).toString() : "all refused calls";
            due.is("after " + label + ": " + third.calls().get(n), got[n], want[n]);
        }
        int calls = first.calls().size() + second.calls().size() + third.calls().size();
        due.yes("a run has at most 512 calls, " + calls, calls <= Script.MOST_CALLS);
    }

    private static void add(List<String> refused, String text, String... words) {
        for (String word : words) {
            refused.add(text.replace("T", word));
        }
    }

    private static List<String> refusedCalls() {
        List<String> refused = new ArrayList<>();
        addSpawnAndDelete(refused);
        for (String[] threads : new String[][] {NO_THREADS, NOT_RUNNING}) {
            add(refused, "load(T, 0, 99) = false", threads);
            add(refused, "offer(T, 7, 2, true) = false", threads);
            add(refused, "offer(T, -1, 2, true) = false", threads);
            add(refused, "window(T, 7) = false", threads);
            add(refused, "window(T, -1) = false", threads);
            add(refused, "send(T, 0, 0) = -1", threads);
            add(refused, "call(T, 0, 9) = -1", threads);
            add(refused, "receive(T, 0, 0) = -1", threads);
            add(refused, "receive(T, -1, 9) = -1", threads);
            add(refused, "access(T, 2, true, 99) = -1", threads);
            add(refused, "unmap(T, 2, 1, true) = -1", threads);
        }
        addOfRunning(refused);
        return refused;
    }

    private static void addSpawnAndDelete(List<String> refused) {
        add(refused, "spawn(T, -1) = -1", "MIN", "-1", "6", "MAX");
        add(refused, "spawn(0, T) = -1", "MIN", "-2", "7", "8", "MAX");
        add(refused, "delete(T) = false", NO_THREADS);
        refused.add("delete(0) = false");
    }

    private static void addOfRunning(List<String> refused) {
        add(refused, "load(0, T, 99) = false", "MIN", "-1", "4", "MAX");
        add(refused, "offer(0, T, 2, true) = false", NO_PAGES);
        add(refused, "offer(0, 7, T, true) = false", NO_LEVELS);
        add(refused, "window(0, T) = false", NO_PAGES);
        refused.add("send(0, 0, 9) = -1");
        add(refused, "send(0, T, 9) = -1", NO_THREADS);
        add(refused, "send(0, 2, T) = -1", NO_LIMITS);
        add(refused, "send(0, 5, T) = -1", NO_LIMITS);
        refused.add("call(0, 0, 9) = -1");
        add(refused, "call(0, T, 9) = -1", NO_THREADS);
        add(refused, "call(0, 2, T) = -1", NO_LIMITS);
        add(refused, "call(0, 5, T) = -1", NO_LIMITS);
        refused.add("receive(0, 0, 9) = -1");
        add(refused, "receive(0, T, 9) = -1", "MIN", "-2", "7", "8", "MAX");
        add(refused, "receive(0, -1, T) = -1", NO_LIMITS);
        add(refused, "receive(0, 4, T) = -1", NO_LIMITS);
        add(refused, "access(0, T, true, 99) = -1", "MIN", "-1", "16", "MAX");
        add(refused, "unmap(0, T, 1, true) = -1", "MIN", "-1", "16", "MAX");
        add(refused, "unmap(0, 1, T, true) = -1", NO_LEVELS);
    }
}
