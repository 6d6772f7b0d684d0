/**
 * Each call of the face with every combination of the arguments at and around the document's edges,
 * in four states, on the program and on KernelModel: its answer, all that can be asked after it and
 * the meetings that follow must be the same.
 */
public final class ArgumentsTest {
    private static final Due due = new Due("ArgumentsTest");

    private static final int[] THREADS = {Integer.MIN_VALUE, -2, -1, 0, 1, 2, 3, 4, 5, 6, 7, 8, Integer.MAX_VALUE};
    private static final int[] SPACES = {Integer.MIN_VALUE, -1, 0, 1, 4, 5, 6, Integer.MAX_VALUE};
    private static final int[] PAGES = {Integer.MIN_VALUE, -2, -1, 0, 1, 2, 9, 14, 15, 16, Integer.MAX_VALUE};
    private static final int[] LEVELS = {Integer.MIN_VALUE, -1, 0, 1, 2, 3, Integer.MAX_VALUE};
    private static final int[] LIMITS = {Integer.MIN_VALUE, -2, -1, 0, 1, 100, 101, Integer.MAX_VALUE};
    private static final int[] REGISTERS = {Integer.MIN_VALUE, -1, 0, 1, 2, 3, 4, 5, Integer.MAX_VALUE};
    private static final int[] VALUES = {Integer.MIN_VALUE, 0, 99};
    private static final int[] YES_OR_NO = {0, 1};

    private static final Script AFTER = new Script(Texts.everything() + Texts.MEETINGS + "tick(); tick(); tick(); tick()");

    private final Script before;

    private ArgumentsTest(String before) {
        this.before = new Script(before);
    }

    public static void main(String[] args) {
        for (String before : new String[] {"", Texts.ALL_STATES, Texts.MIXED, Texts.EIGHT_THREADS}) {
            ArgumentsTest test = new ArgumentsTest(before);
            test.callsThatChange();
            test.questions();
        }
        due.end();
    }

    private void callsThatChange() {
        each("spawn", SPACES, THREADS);
        each("delete", THREADS);
        each("load", THREADS, REGISTERS, VALUES);
        each("offer", THREADS, PAGES, LEVELS, YES_OR_NO);
        each("window", THREADS, PAGES);
        each("send", THREADS, THREADS, LIMITS);
        each("call", THREADS, THREADS, LIMITS);
        each("receive", THREADS, THREADS, LIMITS);
        each("access", THREADS, PAGES, YES_OR_NO, VALUES);
        each("unmap", THREADS, PAGES, LEVELS, YES_OR_NO);
        each("tick");
    }

    private void questions() {
        each("state", THREADS);
        each("register", THREADS, REGISTERS);
        each("outcome", THREADS);
        each("value", THREADS);
        each("sender", THREADS);
        each("mapping", SPACES, PAGES);
        each("heirs", SPACES, PAGES);
        each("waiting", THREADS);
        each("word", PAGES);
    }

    private void each(String name, int[]... choices) {
        int combinations = 1;
        for (int[] choice : choices) {
            combinations *= choice.length;
        }
        for (int n = 0; n < combinations; n++) {
            int rest = n;
            int[] args = new int[choices.length];
            for (int k = 0; k < args.length; k++) {
                args[k] = choices[k][rest % choices[k].length];
                rest /= choices[k].length;
            }
            same(new Script.Call(name, args, null));
        }
    }

    private void same(Script.Call call) {
        PagerKernel x = new PagerKernel();
        KernelModel model = new KernelModel();
        before.answers(x);
        before.answers(model);
        due.is(call.toString(), call.answer(x), call.answer(model));
        long[] got = AFTER.answers(x);
        long[] want = AFTER.answers(model);
        int wrong = 0;
        while (wrong < got.length && got[wrong] == want[wrong]) {
            wrong++;
        }
        if (wrong < got.length) {
            due.is(AFTER.calls().get(wrong) + " after " + call, got[wrong], want[wrong]);
        }
    }
}
