/** Parts of scripts that many runs share. */
final class Texts {
    /** Threads 1 .. 5, thread t in space t and without a pager. */
    static final String SPACES = """
        spawn(1, -1) = 1; spawn(2, -1) = 2; spawn(3, -1) = 3; spawn(4, -1) = 4; spawn(5, -1) = 5
        """;

    /** Threads 1 .. 6 are each in the state that bears its number; thread 7 is not there. */
    static final String ALL_STATES = """
        spawn(1, -1) = 1; spawn(1, -1) = 2; spawn(1, -1) = 3; spawn(1, 0) = 4; spawn(1, 0) = 5; spawn(1, -1) = 6
        access(5, 2, false, 0) = 1; receive(0, -1, 0) = 0
        send(1, 0, -1) = 1; receive(2, 0, -1) = 1; call(3, 0, -1) = 1; access(4, 1, false, 0) = 1; access(6, 0, false, 0) = 2
        """;

    private Texts() {
    }

    static String text(String name, Object... args) {
        StringBuilder text = new StringBuilder(name).append('(');
        for (int n = 0; n < args.length; n++) {
            text.append(n == 0 ? "" : ", ").append(args[n]);
        }
        return text.append(')').toString();
    }

    static String due(Object answer, String name, Object... args) {
        return text(name, args) + " = " + answer + "\n";
    }

    /** The offer goes from page p of thread s to page q of thread r. */
    static String hand(int s, int p, int r, int q, int level, boolean grant) {
        return due(true, "window", r, q) + due(true, "offer", s, p, level, grant)
            + due(1, "receive", r, s, -1) + due(0, "send", s, r, 0);
    }

    static String map(int s, int p, int r, int q) {
        return hand(s, p, r, q, 2, false);
    }

    /** What a page holds, and how many descendants that has. */
    static String page(int space, int p, int mapping, int heirs) {
        return due(mapping, "mapping", space, p) + due(heirs, "heirs", space, p);
    }

    static String empty(int space, int p) {
        return page(space, p, -1, -1);
    }

    static String at(int t, int state, int outcome) {
        return due(state, "state", t) + due(outcome, "outcome", t);
    }

    static String registers(int t, int... want) {
        StringBuilder text = new StringBuilder();
        for (int k = 0; k < want.length; k++) {
            text.append(due(want[k], "register", t, k));
        }
        return text.toString();
    }

    /** Page 3 of space 0 is handed on until depth `deepest`, in turn to threads 1 and 2. */
    static String chain(int deepest) {
        StringBuilder text = new StringBuilder(SPACES).append(map(0, 3, 1, 0));
        for (int depth = 2; depth <= deepest; depth++) {
            text.append(map(chainSpace(depth - 1), chainPage(depth - 1), chainSpace(depth), chainPage(depth)));
        }
        return text.toString();
    }

    static int chainSpace(int depth) {
        return depth % 2 == 1 ? 1 : 2;
    }

    static int chainPage(int depth) {
        return (depth - 1) / 2;
    }
}
