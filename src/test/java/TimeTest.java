/** Promise 12: tick, and the limits of send, call and receive. */
public final class TimeTest {
    private static final Due due = new Due("TimeTest");

    public static void main(String[] args) {
        limitsOfAllKinds();
        eachShortLimit();
        longestLimit();
        limitsCountFromNow();
        limitOfACallEndsWithTheMessage();
        noLimit();
        limitIsGoneAfterTheWait();
        due.end();
    }

    private static PagerKernel threads(int n) {
        PagerKernel x = new PagerKernel();
        for (int t = 1; t < n; t++) {
            x.spawn(0, -1);
        }
        return x;
    }

    private static void isAt(PagerKernel x, int t, int state, int outcome) {
        due.is("state(" + t + ")", x.state(t), state);
        due.is("outcome(" + t + ")", x.outcome(t), outcome);
    }

    private static void limitsOfAllKinds() {
        PagerKernel x = threads(6);
        due.is("12: tick(), no one waits", x.tick(), 0);
        x.send(1, 0, 2);
        x.call(2, 0, 2);
        x.receive(3, -1, 2);
        x.receive(4, 0, 2);
        x.send(5, 0, 3);
        due.is("12: tick()", x.tick(), 0);
        due.is("20: waiting(0)", x.waiting(0), 3);
        due.is("12: tick()", x.tick(), 4);
        for (int t = 1; t < 5; t++) {
            isAt(x, t, 0, 1);
        }
        isAt(x, 5, 1, 0);
        due.is("20: waiting(0)", x.waiting(0), 1);
        due.is("12: tick()", x.tick(), 1);
        isAt(x, 5, 0, 1);
        due.is("12: tick()", x.tick(), 0);
        due.is("9: receive(0, -1, 0)", x.receive(0, -1, 0), 2);
    }

    private static void eachShortLimit() {
        for (int limit = 1; limit <= 20; limit++) {
            PagerKernel x = threads(2);
            x.receive(1, 0, limit);
            for (int n = 1; n < limit; n++) {
                due.is("12: tick() " + n + " of " + limit, x.tick(), 0);
            }
            due.is("12: tick() " + limit + " of " + limit, x.tick(), 1);
            isAt(x, 1, 0, 1);
        }
    }

    private static void longestLimit() {
        PagerKernel x = threads(3);
        x.send(1, 0, 100);
        x.call(2, 0, 1);
        due.is("12: tick()", x.tick(), 1);
        isAt(x, 2, 0, 1);
        for (int n = 2; n < 100; n++) {
            due.is("12: tick()", x.tick(), 0);
        }
        isAt(x, 1, 1, 0);
        due.is("12: the hundredth tick()", x.tick(), 1);
        isAt(x, 1, 0, 1);
    }

    private static void limitsCountFromNow() {
        PagerKernel x = threads(3);
        x.tick();
        x.tick();
        x.send(1, 0, 1);
        x.tick();
        isAt(x, 1, 0, 1);
        x.receive(2, 0, 2);
        due.is("12: tick()", x.tick(), 0);
        x.send(1, 0, 1);
        due.is("12: both at once", x.tick(), 2);
    }

    private static void limitOfACallEndsWithTheMessage() {
        PagerKernel x = threads(2);
        x.call(1, 0, 2);
        x.tick();
        x.receive(0, -1, 0);
        isAt(x, 1, 2, 0);
        due.is("12: tick()", x.tick(), 0);
        due.is("12: tick()", x.tick(), 0);
        isAt(x, 1, 2, 0);
    }

    private static void noLimit() {
        PagerKernel x = threads(4);
        x.send(1, 0, -1);
        x.call(2, 0, -1);
        x.receive(3, -1, -1);
        for (int n = 0; n < 210; n++) {
            due.is("12: tick()", x.tick(), 0);
        }
        isAt(x, 1, 1, 0);
        isAt(x, 2, 3, 0);
        isAt(x, 3, 2, 0);
    }

    private static void limitIsGoneAfterTheWait() {
        PagerKernel x = threads(3);
        x.send(1, 0, 2);
        x.receive(0, 1, 0);
        x.receive(2, -1, 2);
        x.send(0, 2, 0);
        x.send(1, 0, -1);
        x.receive(2, 1, -1);
        due.is("12: tick()", x.tick(), 0);
        due.is("12: tick()", x.tick(), 0);
        isAt(x, 0, 0, 0);
        isAt(x, 1, 1, 0);
        isAt(x, 2, 2, 0);
    }
}
