/** Promises 7 to 9, 15, 17 and 20: send, call, receive, outcome, sender, waiting. */
public final class MessagesTest {
    private static final Due due = new Due("MessagesTest");
    private static final int LEAST = Integer.MIN_VALUE;
    private static final int GREATEST = Integer.MAX_VALUE;

    public static void main(String[] args) {
        sendToOneThatReceives();
        sendWaits();
        sendRefuses();
        callToOneThatReceives();
        callWaits();
        callRefuses();
        callFetchedLater();
        receiveTakesTheLongestWaiting();
        receiveFromOne();
        receiveRefuses();
        receiveWaitsForTheRightOne();
        receiveFromOneThatOnlyRests();
        callersThatMeet();
        outcomeIsOfTheLatestThatEnded();
        askingOfNoThread();
        waitingCounts();
        due.end();
    }

    /** Threads 0 .. n - 1, all in space 0 and without a pager; register 0 of t is 10 + t. */
    private static PagerKernel threads(int n) {
        PagerKernel x = new PagerKernel();
        for (int t = 0; t < n; t++) {
            if (t > 0) {
                x.spawn(0, -1);
            }
            x.load(t, 0, 10 + t);
        }
        return x;
    }

    private static void isAt(PagerKernel x, int t, int state, int outcome) {
        due.is("state(" + t + ")", x.state(t), state);
        due.is("outcome(" + t + ")", x.outcome(t), outcome);
    }

    private static void sendToOneThatReceives() {
        PagerKernel x = threads(3);
        x.send(0, 1, 0);
        isAt(x, 0, 0, 1);
        x.load(0, 1, -5);
        x.load(0, 2, 6);
        x.load(0, 3, 7);
        due.is("9: receive(1, -1, -1)", x.receive(1, -1, -1), 1);
        due.is("7: send(0, 1, 0)", x.send(0, 1, 0), 0);
        isAt(x, 0, 0, 0);
        isAt(x, 1, 0, 0);
        due.is("14: register(1, 0)", x.register(1, 0), 10);
        due.is("14: register(1, 1)", x.register(1, 1), -5);
        due.is("14: register(1, 2)", x.register(1, 2), 6);
        due.is("14: register(1, 3)", x.register(1, 3), 7);
        due.is("14: register(1, 4)", x.register(1, 4), 1);
        due.is("17: sender(1)", x.sender(1), 0);
        due.is("17: sender(0)", x.sender(0), -1);
        due.is("14: register(0, 0) stays", x.register(0, 0), 10);
        due.is("9: receive(1, 2, -1)", x.receive(1, 2, -1), 1);
        due.is("7: send(0, 1, 0), it receives from 2", x.send(0, 1, 0), 2);
        due.is("7: send(2, 1, 100)", x.send(2, 1, 100), 0);
        due.is("17: sender(1)", x.sender(1), 2);
        due.is("14: register(1, 0)", x.register(1, 0), 12);
        due.is("14: register(1, 1)", x.register(1, 1), 0);
    }

    private static void sendWaits() {
        PagerKernel x = threads(2);
        due.is("7: send(0, 1, 0)", x.send(0, 1, 0), 2);
        isAt(x, 0, 0, 1);
        due.is("20: waiting(1)", x.waiting(1), 0);
        due.is("7: send(0, 1, 1)", x.send(0, 1, 1), 1);
        isAt(x, 0, 1, 1);
        due.is("20: waiting(1)", x.waiting(1), 1);
        due.is("9: receive(1, -1, 0)", x.receive(1, -1, 0), 0);
        isAt(x, 0, 0, 0);
        isAt(x, 1, 0, 0);
        due.is("20: waiting(1)", x.waiting(1), 0);
        due.is("12: tick(), the limit is gone", x.tick(), 0);
        due.is("7: send(0, 1, -1)", x.send(0, 1, -1), 1);
        due.is("7: send to one that sends", x.send(1, 0, 0), 2);
        due.is("7: send to one that sends", x.send(1, 0, 100), 1);
        isAt(x, 0, 1, 0);
        isAt(x, 1, 1, 1);
    }

    private static void sendRefuses() {
        PagerKernel x = threads(2);
        x.receive(1, -1, -1);
        due.is("7: send(0, 0, 0)", x.send(0, 0, 0), -1);
        due.is("7: send(0, 2, 0)", x.send(0, 2, 0), -1);
        due.is("7: send(0, -1, 0)", x.send(0, -1, 0), -1);
        due.is("7: send(0, 8, 0)", x.send(0, 8, 0), -1);
        due.is("7: send(0, LEAST, 0)", x.send(0, LEAST, 0), -1);
        due.is("7: send(0, GREATEST, 0)", x.send(0, GREATEST, 0), -1);
        due.is("7: send(0, 1, -2)", x.send(0, 1, -2), -1);
        due.is("7: send(0, 1, 101)", x.send(0, 1, 101), -1);
        due.is("7: send(0, 1, LEAST)", x.send(0, 1, LEAST), -1);
        due.is("7: send(0, 1, GREATEST)", x.send(0, 1, GREATEST), -1);
        due.is("7: send(-1, 0, 0)", x.send(-1, 0, 0), -1);
        due.is("7: send(2, 0, 0)", x.send(2, 0, 0), -1);
        due.is("7: send(8, 0, 0)", x.send(8, 0, 0), -1);
        isAt(x, 0, 0, 0);
        isAt(x, 1, 2, 0);
        due.is("14: register(1, 4)", x.register(1, 4), 0);
    }

    private static void callToOneThatReceives() {
        PagerKernel x = threads(3);
        x.send(0, 1, 0);
        x.receive(1, 0, -1);
        due.is("8: call(0, 1, 1)", x.call(0, 1, 1), 1);
        isAt(x, 0, 2, 1);
        isAt(x, 1, 0, 0);
        due.is("14: register(1, 0)", x.register(1, 0), 10);
        due.is("17: sender(1)", x.sender(1), 0);
        due.is("12: a caller receives without a limit", x.tick(), 0);
        due.is("12: a caller receives without a limit", x.tick(), 0);
        due.is("8: it receives from 1 alone", x.send(2, 0, 0), 2);
        due.is("7: send(1, 0, 0)", x.send(1, 0, 0), 0);
        isAt(x, 0, 0, 0);
        due.is("14: register(0, 4)", x.register(0, 4), 1);
        x.receive(1, -1, -1);
        due.is("8: call(0, 1, 0)", x.call(0, 1, 0), 1);
        isAt(x, 0, 2, 0);
    }

    private static void callWaits() {
        PagerKernel x = threads(2);
        due.is("8: call(0, 1, 0)", x.call(0, 1, 0), 2);
        isAt(x, 0, 0, 1);
        due.is("8: call(0, 1, 2)", x.call(0, 1, 2), 1);
        isAt(x, 0, 3, 1);
        due.is("20: waiting(1)", x.waiting(1), 1);
        due.is("8: no one receives: call(1, 0, 0)", x.call(1, 0, 0), 2);
        due.is("12: tick()", x.tick(), 0);
        due.is("12: tick()", x.tick(), 1);
        isAt(x, 0, 0, 1);
        due.is("20: waiting(1)", x.waiting(1), 0);
    }

    private static void callRefuses() {
        PagerKernel x = threads(2);
        x.receive(1, -1, -1);
        due.is("8: call(0, 0, 0)", x.call(0, 0, 0), -1);
        due.is("8: call(0, 2, 0)", x.call(0, 2, 0), -1);
        due.is("8: call(0, -1, 0)", x.call(0, -1, 0), -1);
        due.is("8: call(0, 8, 0)", x.call(0, 8, 0), -1);
        due.is("8: call(0, LEAST, 0)", x.call(0, LEAST, 0), -1);
        due.is("8: call(0, GREATEST, 0)", x.call(0, GREATEST, 0), -1);
        due.is("8: call(0, 1, -2)", x.call(0, 1, -2), -1);
        due.is("8: call(0, 1, 101)", x.call(0, 1, 101), -1);
        due.is("8: call(0, 1, LEAST)", x.call(0, 1, LEAST), -1);
        due.is("8: call(0, 1, GREATEST)", x.call(0, 1, GREATEST), -1);
        due.is("8: call(-1, 0, 0)", x.call(-1, 0, 0), -1);
        due.is("8: call(2, 0, 0)", x.call(2, 0, 0), -1);
        due.is("8: call(8, 0, 0)", x.call(8, 0, 0), -1);
        isAt(x, 0, 0, 0);
        isAt(x, 1, 2, 0);
    }

    private static void callFetchedLater() {
        PagerKernel x = threads(2);
        due.is("8: call(1, 0, 3)", x.call(1, 0, 3), 1);
        due.is("9: receive(0, 1, 0)", x.receive(0, 1, 0), 0);
        isAt(x, 1, 2, 0);
        due.is("20: waiting(0)", x.waiting(0), 0);
        due.is("14: register(0, 0)", x.register(0, 0), 11);
        for (int n = 0; n < 5; n++) {
            due.is("12: it receives without a limit", x.tick(), 0);
        }
        due.is("7: send(0, 1, 0)", x.send(0, 1, 0), 0);
        isAt(x, 1, 0, 0);
        due.is("17: sender(1)", x.sender(1), 0);
    }

    private static void receiveTakesTheLongestWaiting() {
        PagerKernel x = threads(5);
        x.spawn(1, 0);
        x.send(3, 0, -1);
        x.call(1, 0, -1);
        x.access(5, 9, true, 1);
        x.tick();
        x.send(4, 0, 50);
        x.send(2, 0, 60);
        due.is("20: waiting(0)", x.waiting(0), 5);
        int[] order = {3, 1, 5, 4, 2};
        for (int n = 0; n < 5; n++) {
            due.is("9: receive(0, -1, 0)", x.receive(0, -1, 0), 0);
            due.is("9: the longest waiting: sender(0)", x.sender(0), order[n]);
            due.is("20: waiting(0)", x.waiting(0), 4 - n);
        }
        due.is("14: register(0, 4)", x.register(0, 4), 5);
        due.is("9: receive(0, -1, 0)", x.receive(0, -1, 0), 2);
        isAt(x, 0, 0, 1);
        due.is("7: after its limit a thread waits anew", x.send(2, 0, 1), 1);
        x.send(3, 0, -1);
        x.tick();
        due.is("7: send(2, 0, 9)", x.send(2, 0, 9), 1);
        x.receive(0, -1, 0);
        due.is("9: sender(0)", x.sender(0), 3);
    }

    private static void receiveFromOne() {
        PagerKernel x = threads(4);
        x.send(1, 0, -1);
        x.send(2, 0, -1);
        x.send(3, 2, -1);
        due.is("9: receive(0, 2, 0)", x.receive(0, 2, 0), 0);
        due.is("17: sender(0)", x.sender(0), 2);
        isAt(x, 1, 1, 0);
        due.is("9: 3 sends to another", x.receive(0, 3, 0), 2);
        due.is("9: receive(0, 2, 0), gone", x.receive(0, 2, 0), 2);
        isAt(x, 0, 0, 1);
        due.is("9: receive(0, 3, 5)", x.receive(0, 3, 5), 1);
        isAt(x, 0, 2, 1);
        isAt(x, 1, 1, 0);
        due.is("20: waiting(0)", x.waiting(0), 1);
    }

    private static void receiveRefuses() {
        PagerKernel x = threads(2);
        x.send(1, 0, -1);
        due.is("9: receive(0, 0, 0)", x.receive(0, 0, 0), -1);
        due.is("9: receive(0, 2, 0)", x.receive(0, 2, 0), -1);
        due.is("9: receive(0, -2, 0)", x.receive(0, -2, 0), -1);
        due.is("9: receive(0, 8, 0)", x.receive(0, 8, 0), -1);
        due.is("9: receive(0, LEAST, 0)", x.receive(0, LEAST, 0), -1);
        due.is("9: receive(0, GREATEST, 0)", x.receive(0, GREATEST, 0), -1);
        due.is("9: receive(0, -1, -2)", x.receive(0, -1, -2), -1);
        due.is("9: receive(0, -1, 101)", x.receive(0, -1, 101), -1);
        due.is("9: receive(0, 1, LEAST)", x.receive(0, 1, LEAST), -1);
        due.is("9: receive(0, 1, GREATEST)", x.receive(0, 1, GREATEST), -1);
        due.is("9: receive(-1, 0, 0)", x.receive(-1, 0, 0), -1);
        due.is("9: receive(-1, -1, 0)", x.receive(-1, -1, 0), -1);
        due.is("9: receive(2, 0, 0)", x.receive(2, 0, 0), -1);
        due.is("9: receive(8, 0, 0)", x.receive(8, 0, 0), -1);
        isAt(x, 0, 0, 0);
        isAt(x, 1, 1, 0);
        due.is("14: register(0, 4)", x.register(0, 4), 0);
    }

    private static void receiveWaitsForTheRightOne() {
        PagerKernel x = threads(4);
        due.is("9: receive(0, 2, -1)", x.receive(0, 2, -1), 1);
        due.is("7: send(1, 0, 4)", x.send(1, 0, 4), 1);
        due.is("8: call(3, 0, 0)", x.call(3, 0, 0), 2);
        isAt(x, 0, 2, 0);
        due.is("8: call(2, 0, 0)", x.call(2, 0, 0), 1);
        isAt(x, 0, 0, 0);
        isAt(x, 2, 2, 0);
        due.is("17: sender(0)", x.sender(0), 2);
        due.is("9: receive(0, -1, 100)", x.receive(0, -1, 100), 0);
        due.is("17: sender(0)", x.sender(0), 1);
    }

    private static void receiveFromOneThatOnlyRests() {
        PagerKernel x = new PagerKernel();
        x.spawn(1, 0);
        x.access(1, 2, false, 0);
        x.receive(0, 1, 0);
        due.is("9: a resting thread does not send", x.receive(0, 1, 0), 2);
        due.is("20: waiting(0)", x.waiting(0), 0);
        due.is("13: state(1)", x.state(1), 5);
    }

    private static void callersThatMeet() {
        PagerKernel x = threads(3);
        x.call(1, 2, -1);
        x.call(0, 1, -1);
        due.is("9: receive(2, -1, -1)", x.receive(2, -1, -1), 0);
        isAt(x, 1, 2, 0);
        isAt(x, 0, 3, 0);
        due.is("8: 1 receives from 2, not from 0", x.waiting(1), 1);
        due.is("8: call(2, 1, 0)", x.call(2, 1, 0), 1);
        isAt(x, 1, 0, 0);
        isAt(x, 2, 2, 0);
        due.is("9: receive(1, -1, 0)", x.receive(1, -1, 0), 0);
        due.is("17: sender(1)", x.sender(1), 0);
        isAt(x, 0, 2, 0);
    }

    private static void outcomeIsOfTheLatestThatEnded() {
        PagerKernel x = threads(2);
        x.receive(0, -1, 0);
        due.is("15: outcome(0)", x.outcome(0), 1);
        x.access(0, 1, false, 0);
        due.is("15: outcome(0), an access", x.outcome(0), 0);
        x.call(0, 1, 0);
        due.is("15: outcome(0)", x.outcome(0), 1);
        x.load(0, 0, 1);
        x.unmap(0, 3, 1, true);
        x.send(0, 0, 0);
        x.access(0, 16, false, 0);
        due.is("15: a refused one does not count", x.outcome(0), 1);
        x.receive(0, 1, -1);
        due.is("15: one that has not ended does not count", x.outcome(0), 1);
        x.delete(1);
        due.is("15: outcome(0)", x.outcome(0), 2);
        x.unmap(0, 4, 1, true);
        x.access(0, 4, false, 0);
        due.is("13: state(0)", x.state(0), 6);
        due.is("15: a stuck access never ends", x.outcome(0), 2);
    }

    private static void askingOfNoThread() {
        PagerKernel x = threads(2);
        x.receive(1, 0, -1);
        x.send(0, 1, 0);
        x.delete(1);
        int[] none = {-1, 1, 7, 8, LEAST, GREATEST};
        for (int t : none) {
            due.is("15: outcome(" + t + ")", x.outcome(t), -1);
            due.is("16: value(" + t + ")", x.value(t), 0);
            due.is("17: sender(" + t + ")", x.sender(t), -1);
            due.is("20: waiting(" + t + ")", x.waiting(t), -1);
        }
    }

    private static void waitingCounts() {
        PagerKernel x = threads(4);
        x.spawn(1, 0);
        x.spawn(1, 0);
        x.send(1, 0, -1);
        x.call(2, 0, -1);
        x.receive(3, 0, -1);
        x.access(4, 0, false, 0);
        x.access(5, 0, false, 0);
        due.is("20: waiting(0)", x.waiting(0), 4);
        due.is("20: waiting(1)", x.waiting(1), 0);
        x.receive(0, 4, 0);
        due.is("20: a resting thread is not counted", x.waiting(0), 3);
        x.receive(0, 2, 0);
        due.is("20: one that receives is not counted", x.waiting(0), 2);
    }
}
