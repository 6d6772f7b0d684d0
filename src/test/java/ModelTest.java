import java.util.Random;

/**
 * Runs of mixed calls, the same in every run of the test, on the program and on KernelModel: each
 * answer, and at the end of a run all that can be asked, must be the same. No run has more than the
 * document's 512 calls.
 */
public final class ModelTest {
    private static final int RUNS = 20_000;
    private static final int LONGEST_RUN = 200;
    private static final int ASKING_RUN = 251;
    private static final int[] STRANGE = {
        Integer.MIN_VALUE, Integer.MIN_VALUE + 1, -101, -2, -1, 0, 1, 2, 3, 4, 5, 6, 7, 8, 15, 16, 17, 100, 101,
        1 << 16, 1 << 30, Integer.MAX_VALUE - 1, Integer.MAX_VALUE
    };
    private static final Due due = new Due("ModelTest");

    private final Random random;
    private final String run;
    private final PagerKernel x = new PagerKernel();
    private final KernelModel model = new KernelModel();
    private final int pages;
    private final int strangeness;

    private ModelTest(int seed) {
        random = new Random(seed);
        run = "run " + seed + ": ";
        pages = 1 + random.nextInt(random.nextBoolean() ? 3 : 16);
        strangeness = random.nextInt(3) == 0 ? 10 : 300;
    }

    public static void main(String[] args) {
        for (int seed = 0; seed < RUNS && !due.hasWrong(); seed++) {
            if (seed % 4 == 0) {
                new ModelTest(seed).playAndAsk();
            } else {
                new ModelTest(seed).play();
            }
        }
        due.end();
    }

    private void play() {
        int calls = 1 + random.nextInt(LONGEST_RUN);
        for (int n = 0; n < calls; n++) {
            step();
        }
        askAll();
    }

    /** A run that is nearly as long as an object's life, with a question after each call. */
    private void playAndAsk() {
        for (int n = 0; n < ASKING_RUN; n++) {
            step();
            ask();
        }
        askStrange();
    }

    private void ask() {
        int t = random.nextInt(8);
        int space = random.nextInt(6);
        int p = random.nextInt(pages);
        int k = random.nextInt(5);
        switch (random.nextInt(9)) {
            case 0 -> due.is(run + text("state", t), x.state(t), model.state(t));
            case 1 -> due.is(run + text("outcome", t), x.outcome(t), model.outcome(t));
            case 2 -> due.is(run + text("value", t), x.value(t), model.value(t));
            case 3 -> due.is(run + text("sender", t), x.sender(t), model.sender(t));
            case 4 -> due.is(run + text("waiting", t), x.waiting(t), model.waiting(t));
            case 5 -> due.is(run + text("register", t, k), x.register(t, k), model.register(t, k));
            case 6 -> due.is(run + text("mapping", space, p), x.mapping(space, p), model.mapping(space, p));
            case 7 -> due.is(run + text("heirs", space, p), x.heirs(space, p), model.heirs(space, p));
            default -> due.is(run + text("word", p), x.word(p), model.word(p));
        }
    }

    private int below(int bound) {
        return random.nextInt(strangeness) == 0 ? STRANGE[random.nextInt(STRANGE.length)] : random.nextInt(bound);
    }

    /** A number of a thread, more often than not one that is there (and running, if it is asked for). */
    private int thread(boolean running) {
        for (int tries = 0; tries < 6; tries++) {
            int t = random.nextInt(8);
            int state = model.state(t);
            if (running ? state == 0 : state >= 0) {
                return t;
            }
        }
        return below(8);
    }

    /** A thread that t could meet now, if one is found. */
    private int partner(int t) {
        for (int tries = 0; tries < 4; tries++) {
            int other = random.nextInt(8);
            int state = model.state(other);
            if (other != t && (state == 2 || state == 5)) {
                return other;
            }
        }
        return thread(false);
    }

    private int limit() {
        int kind = random.nextInt(4);
        if (kind == 0) {
            return -1;
        }
        return kind == 1 ? 1 + random.nextInt(3) : below(2);
    }

    private void step() {
        int kind = random.nextInt(100);
        if (kind < 8) {
            spawn();
        } else if (kind < 10) {
            delete();
        } else if (kind < 14) {
            load();
        } else if (kind < 27) {
            offer();
        } else if (kind < 35) {
            window();
        } else if (kind < 51) {
            send();
        } else if (kind < 61) {
            call();
        } else if (kind < 79) {
            receive();
        } else if (kind < 92) {
            access();
        } else if (kind < 95) {
            unmap();
        } else {
            due.is(run + "tick()", x.tick(), model.tick());
        }
    }

    private static String text(String name, Object... args) {
        StringBuilder text = new StringBuilder(name).append('(');
        for (int n = 0; n < args.length; n++) {
            text.append(n == 0 ? "" : ", ").append(args[n]);
        }
        return text.append(')').toString();
    }

    private void same(String call, boolean got, boolean want) {
        due.is(run + call, got ? 1 : 0, want ? 1 : 0);
    }

    private void spawn() {
        int space = below(6);
        int pager = random.nextInt(4) == 0 ? -1 : thread(false);
        due.is(run + text("spawn", space, pager), x.spawn(space, pager), model.spawn(space, pager));
    }

    private void delete() {
        int t = thread(false);
        same(text("delete", t), x.delete(t), model.delete(t));
    }

    private void load() {
        int t = thread(true);
        int k = below(4);
        int v = random.nextInt();
        same(text("load", t, k, v), x.load(t, k, v), model.load(t, k, v));
    }

    private void offer() {
        int t = thread(true);
        int p = below(pages);
        int level = random.nextInt(3) == 0 ? below(4) : 2;
        boolean grant = random.nextInt(4) == 0;
        same(text("offer", t, p, level, grant), x.offer(t, p, level, grant), model.offer(t, p, level, grant));
    }

    private void window() {
        int t = thread(true);
        int p = below(pages + 1) - 1;
        same(text("window", t, p), x.window(t, p), model.window(t, p));
    }

    private void send() {
        int t = thread(true);
        int to = partner(t);
        int limit = limit();
        due.is(run + text("send", t, to, limit), x.send(t, to, limit), model.send(t, to, limit));
    }

    private void call() {
        int t = thread(true);
        int to = partner(t);
        int limit = limit();
        due.is(run + text("call", t, to, limit), x.call(t, to, limit), model.call(t, to, limit));
    }

    private void receive() {
        int t = thread(true);
        int from = random.nextInt(3) == 0 ? thread(false) : -1;
        int limit = limit();
        due.is(run + text("receive", t, from, limit), x.receive(t, from, limit), model.receive(t, from, limit));
    }

    private void access() {
        int t = thread(true);
        int p = below(pages);
        boolean store = random.nextBoolean();
        int v = random.nextInt();
        if (model.state(t) == 0 && t == 0 && model.mapping(0, p) == -1) {
            return; // A thread 0 that is stuck stays so: a run would hold little more.
        }
        due.is(run + text("access", t, p, store, v), x.access(t, p, store, v), model.access(t, p, store, v));
    }

    private void unmap() {
        int t = thread(true);
        int p = below(pages);
        int level = random.nextInt(3) == 0 ? below(3) : 1 + random.nextInt(2);
        boolean self = random.nextInt(4) == 0;
        due.is(run + text("unmap", t, p, level, self), x.unmap(t, p, level, self), model.unmap(t, p, level, self));
    }

    private void askAll() {
        for (int t = 0; t < 8; t++) {
            due.is(run + text("state", t), x.state(t), model.state(t));
            due.is(run + text("outcome", t), x.outcome(t), model.outcome(t));
            due.is(run + text("value", t), x.value(t), model.value(t));
            due.is(run + text("sender", t), x.sender(t), model.sender(t));
            due.is(run + text("waiting", t), x.waiting(t), model.waiting(t));
            for (int k = 0; k < 5; k++) {
                due.is(run + text("register", t, k), x.register(t, k), model.register(t, k));
            }
        }
        for (int space = 0; space < 6; space++) {
            for (int p = 0; p < 16; p++) {
                due.is(run + text("mapping", space, p), x.mapping(space, p), model.mapping(space, p));
                due.is(run + text("heirs", space, p), x.heirs(space, p), model.heirs(space, p));
            }
        }
        for (int frame = 0; frame < 16; frame++) {
            due.is(run + text("word", frame), x.word(frame), model.word(frame));
        }
        askStrange();
    }

    private void askStrange() {
        int a = STRANGE[random.nextInt(STRANGE.length)];
        int b = STRANGE[random.nextInt(STRANGE.length)];
        due.is(run + text("state", a), x.state(a), model.state(a));
        due.is(run + text("register", a, b), x.register(a, b), model.register(a, b));
        due.is(run + text("outcome", a), x.outcome(a), model.outcome(a));
        due.is(run + text("value", a), x.value(a), model.value(a));
        due.is(run + text("sender", a), x.sender(a), model.sender(a));
        due.is(run + text("mapping", a, b), x.mapping(a, b), model.mapping(a, b));
        due.is(run + text("heirs", a, b), x.heirs(a, b), model.heirs(a, b));
        due.is(run + text("waiting", a), x.waiting(a), model.waiting(a));
        due.is(run + text("word", a), x.word(a), model.word(a));
    }
}
