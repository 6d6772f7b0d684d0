/** Parts of scripts that many runs share. */
final class Texts {
    /** Threads 1 .. 5, thread t in space t and without a pager. */
    static final String SPACES = """
        spawn(1, -1) = 1; spawn(2, -1) = 2; spawn(3, -1) = 3; spawn(4, -1) = 4; spawn(5, -1) = 5
        """;

    /** Threads 1 .. 6 are each in the state that bears its number; thread 7 is not there. */
    static final String ALL_STATES = """
        spawn(1, -1) = 1; spawn(1, -1) = 2; spawn(1, -1) = 3; spawn(1, 0) = 4; spawn(1, 0) = 5; spawn(1, -1) = 6
        access(5, 2, false, 0) = 1; receive(0, -1, 0) = 0
        send(1, 0, -1) = 1; receive(2, 0, -1) = 1; call(3, 0, -1) = 1; access(4, 1, false, 0) = 1; access(6, 0, false, 0) = 2
        """;

    /** Threads 1 .. 6 are in the states 1 .. 6, 0 runs, and nothing of it is as it was at first. */
    static final String MIXED = """
        tick() = 0
        spawn(1, -1) = 1; spawn(2, -1) = 2; spawn(3, -1) = 3; spawn(4, 0) = 4; spawn(5, 0) = 5; spawn(1, -1) = 6
        load(0, 0, 70) = true; load(0, 1, 71) = true; load(0, 2, 72) = true; load(0, 3, 73) = true
        window(1, 2) = true; receive(1, 0, -1) = 1; offer(0, 1, 2, false) = true; send(0, 1, 0) = 0
        window(3, 3) = true; receive(3, 1, -1) = 1; offer(1, 2, 2, false) = true; send(1, 3, 0) = 0
        window(4, 1) = true; window(5, 2) = true; window(6, 4) = true; offer(6, 2, 1, false) = true
        window(2, 5) = true; offer(4, 0, 1, true) = true; offer(5, 0, 1, true) = true
        access(5, 6, true, 77) = 1; receive(0, -1, 0) = 0
        offer(1, 2, 2, true) = true; send(1, 0, 3) = 1
        access(4, 8, false, 0) = 1
        offer(3, 3, 1, false) = true; call(3, 0, 2) = 1
        receive(2, -1, 4) = 1
        access(6, 0, false, 0) = 2
        access(0, 4, true, 55) = 0; access(0, 4, false, 0) = 0
        load(0, 0, 80) = true; load(0, 3, 83) = true
        receive(0, 6, 0) = 2
        window(0, 14) = true; offer(0, 9, 1, false) = true
        """;

    /** As MIXED, with a thread 7 that runs. */
    static final String EIGHT_THREADS = MIXED + "spawn(5, 0) = 7; load(7, 0, 90) = true; send(7, 6, 0) = 2\n";

    /** Behind MIXED it shows the order of those that wait, the offers, the windows, the wanted pages and words. */
    static final String MEETINGS = """
        send(0, 2, 0); mapping(2, 5); register(2, 0); register(2, 3); state(2)
        receive(0, -1, 0); sender(0); mapping(0, 14); mapping(1, 2); register(0, 0)
        window(0, 13); receive(0, -1, 0); sender(0); register(0, 0); register(0, 1); mapping(0, 13)
        receive(0, -1, 0); sender(0); mapping(0, 13); state(3); receive(0, -1, 0); outcome(0)
        offer(0, 10, 1, false); send(0, 5, 0); mapping(5, 6); state(5); receive(0, 5, 0); register(0, 0); register(0, 1)
        offer(0, 10, 2, false); send(0, 5, 0); word(10); state(5); send(0, 4, 0); state(4)
        spawn(2, 0); state(7); access(7, 0, false, 0); waiting(0); access(2, 0, false, 0); state(2)
        """;

    private Texts() {
    }

    static String text(String name, Object... args) {
        StringBuilder text = new StringBuilder(name).append('(');
        for (int n = 0; n < args.length; n++) {
            text.append(n == 0 ? "" : ", ").append(args[n]);
        }
        return text.append(')').toString();
    }

    static String due(Object answer, String name, Object... args) {
        return text(name, args) + " = " + answer + "\n";
    }

    /** The offer goes from page p of thread s to page q of thread r. */
    static String hand(int s, int p, int r, int q, int level, boolean grant) {
        return due(true, "window", r, q) + due(true, "offer", s, p, level, grant)
            + due(1, "receive", r, s, -1) + due(0, "send", s, r, 0);
    }

    static String map(int s, int p, int r, int q) {
        return hand(s, p, r, q, 2, false);
    }

    /** What a page holds, and how many descendants that has. */
    static String page(int space, int p, int mapping, int heirs) {
        return due(mapping, "mapping", space, p) + due(heirs, "heirs", space, p);
    }

    static String empty(int space, int p) {
        return page(space, p, -1, -1);
    }

    static String at(int t, int state, int outcome) {
        return due(state, "state", t) + due(outcome, "outcome", t);
    }

    static String registers(int t, int... want) {
        StringBuilder text = new StringBuilder();
        for (int k = 0; k < want.length; k++) {
            text.append(due(want[k], "register", t, k));
        }
        return text.toString();
    }

    /** Page 3 of space 0 is handed on until depth `deepest`, in turn to threads 1 and 2. */
    static String chain(int deepest) {
        StringBuilder text = new StringBuilder(SPACES).append(map(0, 3, 1, 0));
        for (int depth = 2; depth <= deepest; depth++) {
            text.append(map(chainSpace(depth - 1), chainPage(depth - 1), chainSpace(depth), chainPage(depth)));
        }
        return text.toString();
    }

    static int chainSpace(int depth) {
        return depth % 2 == 1 ? 1 : 2;
    }

    static int chainPage(int depth) {
        return (depth - 1) / 2;
    }

    /** Every question of which the answer may be other than the one for what is not there. */
    static String everything() {
        StringBuilder all = new StringBuilder();
        for (int t = 0; t < 8; t++) {
            for (String name : new String[] {"state", "outcome", "value", "sender", "waiting"}) {
                all.append(text(name, t)).append('\n');
            }
            for (int k = 0; k < 5; k++) {
                all.append(text("register", t, k)).append('\n');
            }
        }
        for (int space = 0; space < 6; space++) {
            for (int p = 0; p < 16; p++) {
                all.append(text("mapping", space, p)).append('\n').append(text("heirs", space, p)).append('\n');
            }
        }
        for (int frame = 0; frame < 16; frame++) {
            all.append(text("word", frame)).append('\n');
        }
        return all.toString();
    }
}
