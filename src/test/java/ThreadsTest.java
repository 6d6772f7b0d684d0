/** Promises 1 to 4, 13 and 14: a new object, spawn, delete, load, state, register. */
public final class ThreadsTest {
    private static final Due due = new Due("ThreadsTest");
    private static final int LEAST = Integer.MIN_VALUE;
    private static final int GREATEST = Integer.MAX_VALUE;

    public static void main(String[] args) {
        newObject();
        spawnCountsUp();
        spawnRefuses();
        spawnTakesTheLeastFreeNumber();
        spawnedThreadIsNew();
        deleteRefuses();
        deleteWakesThoseThatWait();
        deleteLeavesOthersAlone();
        deleteTakesAPagerAway();
        deleteKeepsMappingsAndWords();
        deletedThreadWaitsNoMore();
        deletedNumberMeansNothingToOthers();
        load();
        loadOnlyWhileRunning();
        register();
        statesOfAll();
        due.end();
    }

    private static void newObject() {
        PagerKernel x = new PagerKernel();
        isNewThread(x, 0);
        for (int t = 1; t < 8; t++) {
            due.is("1: state(" + t + ")", x.state(t), -1);
        }
        for (int space = 0; space < 6; space++) {
            for (int p = 0; p < 16; p++) {
                due.is("1: mapping(" + space + ", " + p + ")", x.mapping(space, p), space == 0 ? 10 * p + 2 : -1);
                due.is("1: heirs(" + space + ", " + p + ")", x.heirs(space, p), space == 0 ? 0 : -1);
            }
        }
        for (int frame = 0; frame < 16; frame++) {
            due.is("1: word(" + frame + ")", x.word(frame), 0);
        }
        due.is("1: no pager: access(0, 0) after unmap", x.unmap(0, 0, 1, true), 1);
        due.is("1: no pager: access", x.access(0, 0, false, 0), 2);
    }

    private static void isNewThread(PagerKernel x, int t) {
        due.is("state(" + t + ")", x.state(t), 0);
        due.is("outcome(" + t + ")", x.outcome(t), 0);
        due.is("value(" + t + ")", x.value(t), 0);
        due.is("sender(" + t + ")", x.sender(t), -1);
        due.is("waiting(" + t + ")", x.waiting(t), 0);
        for (int k = 0; k < 5; k++) {
            due.is("register(" + t + ", " + k + ")", x.register(t, k), 0);
        }
    }

    private static void spawnCountsUp() {
        PagerKernel x = new PagerKernel();
        for (int t = 1; t < 8; t++) {
            due.is("2: spawn", x.spawn((t - 1) % 6, t - 2), t);
            isNewThread(x, t);
        }
        due.is("2: a ninth thread", x.spawn(0, -1), -1);
        due.is("2: state(7)", x.state(7), 0);
        due.is("2: state(8)", x.state(8), -1);
    }

    private static void spawnRefuses() {
        PagerKernel x = new PagerKernel();
        due.is("2: spawn(-1, -1)", x.spawn(-1, -1), -1);
        due.is("2: spawn(6, -1)", x.spawn(6, -1), -1);
        due.is("2: spawn(LEAST, -1)", x.spawn(LEAST, -1), -1);
        due.is("2: spawn(GREATEST, -1)", x.spawn(GREATEST, -1), -1);
        due.is("2: spawn(0, -2)", x.spawn(0, -2), -1);
        due.is("2: spawn(0, 1), its own number", x.spawn(0, 1), -1);
        due.is("2: spawn(0, 8)", x.spawn(0, 8), -1);
        due.is("2: spawn(0, LEAST)", x.spawn(0, LEAST), -1);
        due.is("2: spawn(0, GREATEST)", x.spawn(0, GREATEST), -1);
        due.is("2: state(1)", x.state(1), -1);
        due.is("2: spawn(5, 0)", x.spawn(5, 0), 1);
        due.is("2: spawn(0, 1)", x.spawn(0, 1), 2);
    }

    private static void spawnTakesTheLeastFreeNumber() {
        PagerKernel x = new PagerKernel();
        for (int t = 1; t < 8; t++) {
            x.spawn(0, -1);
        }
        due.yes("3: delete(5)", x.delete(5));
        due.yes("3: delete(3)", x.delete(3));
        due.is("2: spawn(0, 5), a deleted pager", x.spawn(0, 5), -1);
        due.is("2: spawn(1, 7)", x.spawn(1, 7), 3);
        due.is("2: spawn(1, 3)", x.spawn(1, 3), 5);
        due.is("2: spawn(1, 3), eight are there", x.spawn(1, 3), -1);
    }

    private static void spawnedThreadIsNew() {
        PagerKernel x = new PagerKernel();
        due.is("spawn", x.spawn(1, 0), 1);
        x.load(0, 0, 4);
        x.load(0, 3, 5);
        x.receive(1, 0, -1);
        x.send(0, 1, 0);
        due.is("14: register(1, 3)", x.register(1, 3), 5);
        due.is("14: register(1, 4)", x.register(1, 4), 1);
        x.window(1, 3);
        x.receive(1, 0, -1);
        x.offer(0, 2, 2, false);
        x.access(0, 2, true, 77);
        x.send(0, 1, 0);
        due.is("10: access(1, 3)", x.access(1, 3, false, 0), 0);
        due.is("16: value(1)", x.value(1), 77);
        x.offer(1, 3, 2, false);
        due.is("7: send(1, 0, 0)", x.send(1, 0, 0), 2);
        due.is("15: outcome(1)", x.outcome(1), 1);
        due.yes("3: delete(1)", x.delete(1));
        due.is("2: spawn(1, -1)", x.spawn(1, -1), 1);
        isNewThread(x, 1);

        // The old window and the old offer would show in the mappings.
        x.receive(1, 0, -1);
        x.offer(0, 4, 2, false);
        x.send(0, 1, 0);
        due.is("6: mapping(1, 3), no window", x.mapping(1, 3), 1022);
        x.window(0, 9);
        x.receive(0, 1, -1);
        x.send(1, 0, 0);
        due.is("5: mapping(0, 9), no offer", x.mapping(0, 9), 92);
        due.is("10: the old pager is gone", x.access(1, 8, false, 0), 2);
    }

    private static void deleteRefuses() {
        PagerKernel x = new PagerKernel();
        due.no("3: delete(0)", x.delete(0));
        due.no("3: delete(1)", x.delete(1));
        due.no("3: delete(-1)", x.delete(-1));
        due.no("3: delete(8)", x.delete(8));
        due.no("3: delete(LEAST)", x.delete(LEAST));
        due.no("3: delete(GREATEST)", x.delete(GREATEST));
        due.is("13: state(0)", x.state(0), 0);
        due.is("2: spawn", x.spawn(0, 0), 1);
        due.yes("3: delete(1)", x.delete(1));
        due.is("13: state(1)", x.state(1), -1);
        due.no("3: delete(1) again", x.delete(1));
    }

    private static void deleteWakesThoseThatWait() {
        PagerKernel x = new PagerKernel();
        for (int t = 1; t < 6; t++) {
            x.spawn(0, -1);
        }
        due.is("7: send(1, 5, -1)", x.send(1, 5, -1), 1);
        due.is("8: call(2, 5, 7)", x.call(2, 5, 7), 1);
        due.is("9: receive(3, 5, 7)", x.receive(3, 5, 7), 1);
        due.is("9: receive(4, -1, -1)", x.receive(4, -1, -1), 1);
        due.yes("3: delete(5)", x.delete(5));
        for (int t = 1; t < 4; t++) {
            due.is("3: state(" + t + ")", x.state(t), 0);
            due.is("3: outcome(" + t + ")", x.outcome(t), 2);
        }
        due.is("3: from any goes on: state(4)", x.state(4), 2);
        due.is("3: outcome(4)", x.outcome(4), 0);
        for (int n = 0; n < 8; n++) {
            due.is("12: no limit is left", x.tick(), 0);
        }
        due.is("15: outcome(2)", x.outcome(2), 2);
    }

    private static void deleteLeavesOthersAlone() {
        PagerKernel x = new PagerKernel();
        for (int t = 1; t < 7; t++) {
            x.spawn(1, t == 6 ? 0 : -1);
        }
        x.send(1, 0, -1);
        x.call(2, 0, 3);
        x.receive(3, 0, -1);
        x.access(4, 0, false, 0);
        x.access(6, 0, false, 0);
        due.yes("3: delete(5)", x.delete(5));
        due.is("3: state(1)", x.state(1), 1);
        due.is("3: state(2)", x.state(2), 3);
        due.is("3: state(3)", x.state(3), 2);
        due.is("3: state(4)", x.state(4), 6);
        due.is("3: state(6)", x.state(6), 4);
        due.is("20: waiting(0)", x.waiting(0), 3);
    }

    private static void deleteTakesAPagerAway() {
        PagerKernel x = new PagerKernel();
        x.spawn(1, -1);
        for (int t = 2; t < 7; t++) {
            x.spawn(2, 1);
        }
        x.access(2, 3, false, 0);
        x.access(3, 4, false, 0);
        due.is("9: receive(1, 2, 0)", x.receive(1, 2, 0), 0);
        due.is("13: state(2)", x.state(2), 5);
        due.is("13: state(3)", x.state(3), 4);
        x.send(4, 0, -1);
        x.send(5, 1, -1);
        due.yes("3: delete(1)", x.delete(1));
        due.is("3: RESTING is STUCK", x.state(2), 6);
        due.is("3: FAULTING is STUCK", x.state(3), 6);
        due.is("3: STUCK keeps its outcome", x.outcome(2), 0);
        due.is("3: SENDING to another goes on", x.state(4), 1);
        due.is("3: SENDING to its pager ends", x.state(5), 0);
        due.is("3: outcome(5)", x.outcome(5), 2);
        due.is("2: spawn(1, -1)", x.spawn(1, -1), 1);
        due.is("20: waiting(1)", x.waiting(1), 0);
        due.is("3: no pager now", x.access(6, 3, false, 0), 2);
        due.is("3: no pager now", x.access(5, 3, false, 0), 2);
    }

    private static void deleteKeepsMappingsAndWords() {
        PagerKernel x = new PagerKernel();
        x.spawn(3, -1);
        x.window(1, 6);
        x.receive(1, -1, -1);
        x.offer(0, 6, 2, false);
        x.send(0, 1, 0);
        due.is("10: access(1, 6, true, 8)", x.access(1, 6, true, 8), 0);
        due.yes("3: delete(1)", x.delete(1));
        due.is("3: mapping(3, 6)", x.mapping(3, 6), 1062);
        due.is("3: heirs(0, 6)", x.heirs(0, 6), 1);
        due.is("3: word(6)", x.word(6), 8);
    }

    private static void deletedThreadWaitsNoMore() {
        PagerKernel x = new PagerKernel();
        x.spawn(0, -1);
        x.spawn(1, 0);
        x.spawn(1, 0);
        x.send(1, 0, 2);
        x.access(2, 0, false, 0);
        x.receive(3, -1, 2);
        due.is("20: waiting(0)", x.waiting(0), 2);
        x.delete(1);
        due.is("20: waiting(0)", x.waiting(0), 1);
        x.delete(2);
        due.is("20: waiting(0)", x.waiting(0), 0);
        x.delete(3);
        due.is("12: tick()", x.tick(), 0);
        due.is("12: tick()", x.tick(), 0);
        due.is("9: receive(0, -1, 0)", x.receive(0, -1, 0), 2);
        due.is("2: spawn", x.spawn(0, -1), 1);
        due.is("7: send(0, 1, 0)", x.send(0, 1, 0), 2);
    }

    private static void deletedNumberMeansNothingToOthers() {
        PagerKernel x = new PagerKernel();
        x.spawn(0, -1);
        x.receive(0, 1, -1);
        x.load(1, 0, 3);
        x.send(1, 0, 0);
        x.delete(1);
        due.is("17: sender(0) stays", x.sender(0), 1);
        due.is("9: receive(0, 1, -1)", x.receive(0, 1, -1), -1);
        due.is("7: send(0, 1, -1)", x.send(0, 1, -1), -1);
        due.is("8: call(0, 1, -1)", x.call(0, 1, -1), -1);
    }

    private static void load() {
        PagerKernel x = new PagerKernel();
        for (int k = 0; k < 4; k++) {
            due.yes("4: load(0, " + k + ")", x.load(0, k, 10 + k));
        }
        due.yes("4: load(0, 0, LEAST)", x.load(0, 0, LEAST));
        due.yes("4: load(0, 1, GREATEST)", x.load(0, 1, GREATEST));
        due.no("4: load(0, -1)", x.load(0, -1, 1));
        due.no("4: load(0, 4)", x.load(0, 4, 1));
        due.no("4: load(0, LEAST)", x.load(0, LEAST, 1));
        due.no("4: load(0, GREATEST)", x.load(0, GREATEST, 1));
        due.no("4: load(1, 0)", x.load(1, 0, 1));
        due.no("4: load(-1, 0)", x.load(-1, 0, 1));
        due.no("4: load(8, 0)", x.load(8, 0, 1));
        due.is("14: register(0, 0)", x.register(0, 0), LEAST);
        due.is("14: register(0, 1)", x.register(0, 1), GREATEST);
        due.is("14: register(0, 2)", x.register(0, 2), 12);
        due.is("14: register(0, 3)", x.register(0, 3), 13);
        due.is("14: register(0, 4)", x.register(0, 4), 0);
    }

    private static PagerKernel allStates() {
        PagerKernel x = new PagerKernel();
        x.spawn(1, -1);
        x.spawn(1, -1);
        x.spawn(1, -1);
        x.spawn(1, 0);
        x.spawn(1, 0);
        x.spawn(1, -1);
        x.access(5, 2, false, 0);
        x.receive(0, -1, 0);
        x.send(1, 0, -1);
        x.receive(2, -1, -1);
        x.call(3, 0, -1);
        x.access(4, 1, false, 0);
        x.access(6, 0, false, 0);
        return x;
    }

    private static void statesOfAll() {
        PagerKernel x = allStates();
        for (int t = 0; t < 7; t++) {
            due.is("13: state(" + t + ")", x.state(t), t);
        }
        due.is("13: state(7)", x.state(7), -1);
        due.is("13: state(8)", x.state(8), -1);
        due.is("13: state(-1)", x.state(-1), -1);
        due.is("13: state(LEAST)", x.state(LEAST), -1);
        due.is("13: state(GREATEST)", x.state(GREATEST), -1);
    }

    private static void loadOnlyWhileRunning() {
        PagerKernel x = allStates();
        for (int t = 1; t < 7; t++) {
            due.no("4: load, state " + t, x.load(t, 0, 5));
            due.no("5: offer, state " + t, x.offer(t, 0, 1, false));
            due.no("5: offer none, state " + t, x.offer(t, -1, 1, false));
            due.no("6: window, state " + t, x.window(t, 0));
            due.is("7: send, state " + t, x.send(t, 0, 0), -1);
            due.is("8: call, state " + t, x.call(t, 0, 0), -1);
            due.is("9: receive, state " + t, x.receive(t, 0, 0), -1);
            due.is("10: access, state " + t, x.access(t, 0, false, 0), -1);
            due.is("11: unmap, state " + t, x.unmap(t, 0, 1, true), -1);
            due.is("13: state(" + t + ") is as before", x.state(t), t);
            due.is("14: register(" + t + ", 0) is as before", x.register(t, 0), 0);
            due.is("15: outcome(" + t + ") is as before", x.outcome(t), 0);
        }
    }

    private static void register() {
        PagerKernel x = new PagerKernel();
        x.load(0, 0, 3);
        x.load(0, 3, 4);
        due.is("14: register(0, -1)", x.register(0, -1), 0);
        due.is("14: register(0, 5)", x.register(0, 5), 0);
        due.is("14: register(0, LEAST)", x.register(0, LEAST), 0);
        due.is("14: register(0, GREATEST)", x.register(0, GREATEST), 0);
        due.is("14: register(1, 0)", x.register(1, 0), 0);
        due.is("14: register(1, 4)", x.register(1, 4), 0);
        due.is("14: register(-1, 0)", x.register(-1, 0), 0);
        due.is("14: register(8, 0)", x.register(8, 0), 0);
        x.spawn(0, -1);
        for (int n = 1; n < 4; n++) {
            x.receive(1, 0, -1);
            x.send(0, 1, 0);
            due.is("14: register(1, 4)", x.register(1, 4), n);
        }
        due.is("14: register(0, 4), sending is not counted", x.register(0, 4), 0);
        x.delete(1);
        due.is("14: register(1, 0) of a deleted thread", x.register(1, 0), 0);
        due.is("14: register(1, 4) of a deleted thread", x.register(1, 4), 0);
    }
}
