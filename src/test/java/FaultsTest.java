/** Promises 10, 16 and 21: access, value, word; and what pagers answer to faults (7, 8, 9). */
public final class FaultsTest {
    private static final Due due = new Due("FaultsTest");
    private static final int LEAST = Integer.MIN_VALUE;
    private static final int GREATEST = Integer.MAX_VALUE;

    public static void main(String[] args) {
        accessAtOnce();
        accessRefuses();
        accessStuck();
        faultIsFetched();
        faultGoesAtOnce();
        faultWaitsForAPagerThatReceivesFromAnother();
        faultKeepsTheOffer();
        answerWithoutAMapping();
        answerWithTooLittle();
        answerByCallThatFaultsAgain();
        answerByCallThatIsDone();
        answerFromAnotherThread();
        answerGoesToTheWantedPage();
        restingTakesNoWords();
        mappingThatComesOtherwise();
        wordsAreOfFrames();
        accessHasNoLimit();
        chainOfPagers();
        due.end();
    }

    private static void isAt(PagerKernel x, int t, int state, int outcome) {
        due.is("state(" + t + ")", x.state(t), state);
        due.is("outcome(" + t + ")", x.outcome(t), outcome);
    }

    private static void hasRegisters(PagerKernel x, int t, int... want) {
        for (int k = 0; k < want.length; k++) {
            due.is("14: register(" + t + ", " + k + ")", x.register(t, k), want[k]);
        }
    }

    /** Thread 0 is the pager of thread 1 in space 1. */
    private static PagerKernel pagerAndThread() {
        PagerKernel x = new PagerKernel();
        x.spawn(1, 0);
        for (int k = 0; k < 4; k++) {
            x.load(0, k, 50 + k);
            x.load(1, k, 60 + k);
        }
        return x;
    }

    private static void accessAtOnce() {
        PagerKernel x = new PagerKernel();
        x.receive(0, -1, 0);
        due.is("10: access(0, 4, true, LEAST)", x.access(0, 4, true, LEAST), 0);
        isAt(x, 0, 0, 0);
        due.is("21: word(4)", x.word(4), LEAST);
        due.is("16: writing is not reading", x.value(0), 0);
        due.is("10: access(0, 4, false, 9)", x.access(0, 4, false, 9), 0);
        due.is("16: value(0)", x.value(0), LEAST);
        due.is("21: reading does not write", x.word(4), LEAST);
        due.is("10: access(0, 15, true, GREATEST)", x.access(0, 15, true, GREATEST), 0);
        due.is("10: access(0, 15, false, 0)", x.access(0, 15, false, 0), 0);
        due.is("16: value(0)", x.value(0), GREATEST);
        due.is("10: access(0, 0, false, 0)", x.access(0, 0, false, 0), 0);
        due.is("16: value(0)", x.value(0), 0);
        due.is("10: access(0, 0, true, 6)", x.access(0, 0, true, 6), 0);
        due.is("21: word(0)", x.word(0), 6);
        due.is("21: word(-1)", x.word(-1), 0);
        due.is("21: word(16)", x.word(16), 0);
        due.is("21: word(LEAST)", x.word(LEAST), 0);
        due.is("21: word(GREATEST)", x.word(GREATEST), 0);
        due.is("21: word(15)", x.word(15), GREATEST);
    }

    private static void accessRefuses() {
        PagerKernel x = pagerAndThread();
        x.receive(0, -1, 0);
        due.is("10: access(0, -1)", x.access(0, -1, false, 0), -1);
        due.is("10: access(0, 16)", x.access(0, 16, true, 5), -1);
        due.is("10: access(0, LEAST)", x.access(0, LEAST, true, 5), -1);
        due.is("10: access(0, GREATEST)", x.access(0, GREATEST, true, 5), -1);
        due.is("10: access(2, 0)", x.access(2, 0, true, 5), -1);
        due.is("10: access(-1, 0)", x.access(-1, 0, true, 5), -1);
        due.is("10: access(8, 0)", x.access(8, 0, true, 5), -1);
        due.is("10: access(1, 16)", x.access(1, 16, true, 5), -1);
        isAt(x, 0, 0, 1);
        isAt(x, 1, 0, 0);
        due.is("21: word(0)", x.word(0), 0);
    }

    private static void accessStuck() {
        PagerKernel x = new PagerKernel();
        x.spawn(1, -1);
        due.is("10: access(1, 0, false, 0)", x.access(1, 0, false, 0), 2);
        isAt(x, 1, 6, 0);
        due.is("10: access(1, 0, false, 0)", x.access(1, 0, false, 0), -1);
        due.is("11: unmap(0, 0, 2, true)", x.unmap(0, 0, 2, true), 1);
        due.is("10: access(0, 0, false, 0)", x.access(0, 0, false, 0), 0);
        due.is("7: a stuck thread takes nothing", x.send(0, 1, 0), 2);
        due.is("10: access(0, 0, true, 3)", x.access(0, 0, true, 3), 2);
        isAt(x, 0, 6, 1);
        due.is("21: word(0)", x.word(0), 0);
        due.no("3: delete(0), stuck", x.delete(0));
        due.yes("3: delete(1), stuck", x.delete(1));
        due.is("2: spawn(1, 0), a stuck pager", x.spawn(1, 0), 1);
        due.is("10: access(1, 0, false, 0)", x.access(1, 0, false, 0), 1);
        due.is("13: state(1)", x.state(1), 4);
        due.is("20: waiting(0)", x.waiting(0), 1);
    }

    private static void faultIsFetched() {
        PagerKernel x = pagerAndThread();
        x.send(1, 0, 0);
        due.is("10: access(1, 7, true, 9)", x.access(1, 7, true, 9), 1);
        isAt(x, 1, 4, 1);
        due.is("20: waiting(0)", x.waiting(0), 1);
        due.is("7: a faulting thread takes nothing", x.send(0, 1, 0), 2);
        due.is("9: receive(0, 1, 0)", x.receive(0, 1, 0), 0);
        isAt(x, 0, 0, 0);
        isAt(x, 1, 5, 1);
        hasRegisters(x, 0, 7, 2, 0, 0, 1);
        hasRegisters(x, 1, 60, 61, 62, 63, 0);
        due.is("17: sender(0)", x.sender(0), 1);
        due.is("20: waiting(0)", x.waiting(0), 0);
    }

    private static void faultGoesAtOnce() {
        PagerKernel x = pagerAndThread();
        x.receive(0, -1, -1);
        due.is("10: access(1, 3, false, 9)", x.access(1, 3, false, 9), 1);
        isAt(x, 0, 0, 0);
        isAt(x, 1, 5, 0);
        hasRegisters(x, 0, 3, 1, 0, 0, 1);
        due.is("17: sender(0)", x.sender(0), 1);
        x.offer(0, 8, 2, false);
        x.call(0, 1, 0);
        isAt(x, 0, 2, 0);
        isAt(x, 1, 0, 0);
        due.is("10: the pager receives from 1", x.access(1, 4, true, 9), 1);
        isAt(x, 0, 0, 0);
        isAt(x, 1, 5, 0);
        hasRegisters(x, 0, 4, 2, 0, 0, 2);
        x.receive(0, 1, 5);
        due.is("12: tick()", x.tick(), 0);
    }

    private static void faultWaitsForAPagerThatReceivesFromAnother() {
        PagerKernel x = pagerAndThread();
        x.spawn(2, 0);
        x.receive(0, 2, -1);
        due.is("10: access(1, 3, false, 9)", x.access(1, 3, false, 9), 1);
        isAt(x, 0, 2, 0);
        isAt(x, 1, 4, 0);
        due.is("10: access(2, 3, false, 9)", x.access(2, 3, false, 9), 1);
        isAt(x, 0, 0, 0);
        isAt(x, 2, 5, 0);
        isAt(x, 1, 4, 0);
    }

    private static void faultKeepsTheOffer() {
        PagerKernel x = pagerAndThread();
        x.spawn(2, -1);
        x.window(0, 15);
        x.window(1, 2);
        x.receive(1, 0, -1);
        x.offer(0, 2, 2, false);
        x.send(0, 1, 0);
        due.is("18: mapping(1, 2)", x.mapping(1, 2), 1022);
        due.yes("5: offer(1, 2, 2, false)", x.offer(1, 2, 2, false));
        x.access(1, 5, false, 0);
        x.receive(0, 1, 0);
        due.is("18: a fault hands nothing on", x.mapping(0, 15), 152);
        x.offer(0, 5, 2, false);
        x.send(0, 1, 0);
        isAt(x, 1, 0, 0);
        x.window(2, 0);
        x.receive(2, 1, -1);
        x.send(1, 2, 0);
        due.is("18: the offer was kept", x.mapping(2, 0), 2022);
    }

    private static void answerWithoutAMapping() {
        PagerKernel x = pagerAndThread();
        x.access(1, 3, false, 0);
        x.receive(0, 1, 0);
        due.is("7: send(0, 1, 0)", x.send(0, 1, 0), 0);
        isAt(x, 0, 0, 0);
        isAt(x, 1, 4, 0);
        due.is("20: it faults again", x.waiting(0), 1);
        due.is("9: receive(0, -1, 0)", x.receive(0, -1, 0), 0);
        hasRegisters(x, 0, 3, 1, 0, 0, 2);
        isAt(x, 1, 5, 0);
    }

    private static void answerWithTooLittle() {
        PagerKernel x = pagerAndThread();
        x.spawn(2, -1);
        x.access(1, 3, true, 44);
        x.receive(0, 1, 0);
        x.send(2, 0, -1);
        x.offer(0, 6, 1, false);
        due.is("7: send(0, 1, 0)", x.send(0, 1, 0), 0);
        due.is("18: mapping(1, 3)", x.mapping(1, 3), 1061);
        isAt(x, 1, 4, 0);
        due.is("21: word(6)", x.word(6), 0);
        x.receive(0, -1, 0);
        due.is("9: the fault is new, 2 came before it", x.sender(0), 2);
        x.receive(0, -1, 0);
        due.is("17: sender(0)", x.sender(0), 1);
        x.offer(0, 6, 2, false);
        due.is("7: send(0, 1, 0)", x.send(0, 1, 0), 0);
        isAt(x, 1, 0, 0);
        due.is("21: word(6)", x.word(6), 44);
        due.is("16: value(1)", x.value(1), 0);
        due.is("18: mapping(1, 3)", x.mapping(1, 3), 1062);
    }

    private static void answerByCallThatFaultsAgain() {
        PagerKernel x = pagerAndThread();
        x.access(1, 3, true, 44);
        x.receive(0, 1, 0);
        x.offer(0, 6, 1, false);
        x.receive(0, 1, 0);
        isAt(x, 0, 0, 1);
        due.is("8: call(0, 1, 9)", x.call(0, 1, 9), 1);
        isAt(x, 0, 0, 0);
        isAt(x, 1, 5, 0);
        hasRegisters(x, 0, 3, 2, 0, 0, 2);
        due.is("18: mapping(1, 3)", x.mapping(1, 3), 1061);
        due.is("20: waiting(0)", x.waiting(0), 0);
    }

    private static void answerByCallThatIsDone() {
        PagerKernel x = pagerAndThread();
        x.send(1, 0, 0);
        x.access(1, 3, true, 44);
        x.receive(0, 1, 0);
        x.offer(0, 6, 2, true);
        due.is("8: call(0, 1, 0)", x.call(0, 1, 0), 1);
        isAt(x, 0, 2, 0);
        isAt(x, 1, 0, 0);
        due.is("21: word(6)", x.word(6), 44);
        due.is("18: mapping(1, 3), a grant", x.mapping(1, 3), 62);
        due.is("18: mapping(0, 6)", x.mapping(0, 6), -1);
        due.is("7: send(1, 0, 0)", x.send(1, 0, 0), 0);
        hasRegisters(x, 0, 60, 61, 62, 63, 2);
    }

    private static void answerFromAnotherThread() {
        PagerKernel x = pagerAndThread();
        x.spawn(0, -1);
        x.access(1, 3, true, 44);
        x.receive(0, 1, 0);
        due.is("7: 1 rests for 0 alone", x.send(2, 1, 0), 2);
        due.is("8: 1 rests for 0 alone", x.call(2, 1, 3), 1);
        isAt(x, 1, 5, 0);
        isAt(x, 2, 3, 1);
        due.is("7: send(0, 1, 0)", x.send(0, 1, 0), 0);
        isAt(x, 2, 3, 1);
    }

    private static void answerGoesToTheWantedPage() {
        PagerKernel x = pagerAndThread();
        x.window(1, 9);
        x.access(0, 6, true, 13);
        x.access(1, 3, false, 0);
        x.receive(0, 1, 0);
        x.offer(0, 6, 2, false);
        x.send(0, 1, 0);
        due.is("18: mapping(1, 3)", x.mapping(1, 3), 1062);
        due.is("18: mapping(1, 9)", x.mapping(1, 9), -1);
        due.is("16: value(1)", x.value(1), 13);
        x.receive(1, 0, -1);
        x.offer(0, 7, 1, false);
        x.send(0, 1, 0);
        due.is("18: the window is as before", x.mapping(1, 9), 1071);
    }

    private static void restingTakesNoWords() {
        PagerKernel x = pagerAndThread();
        x.access(1, 3, false, 0);
        x.receive(0, 1, 0);
        x.offer(0, 6, 1, false);
        x.send(0, 1, 0);
        hasRegisters(x, 1, 60, 61, 62, 63, 0);
        due.is("17: sender(1)", x.sender(1), -1);
        isAt(x, 1, 0, 0);
    }

    private static void mappingThatComesOtherwise() {
        PagerKernel x = pagerAndThread();
        x.spawn(1, -1);
        x.access(1, 3, false, 0);
        x.receive(0, 1, 0);
        x.window(2, 3);
        x.receive(2, 0, -1);
        x.offer(0, 6, 1, false);
        x.send(0, 2, 0);
        due.is("18: mapping(1, 3)", x.mapping(1, 3), 1061);
        isAt(x, 1, 5, 0);
        due.is("7: the answer makes it try", x.send(0, 1, 0), 0);
        isAt(x, 1, 0, 0);
    }

    private static void wordsAreOfFrames() {
        PagerKernel x = pagerAndThread();
        x.access(1, 3, true, 21);
        x.receive(0, 1, 0);
        x.offer(0, 6, 2, false);
        x.send(0, 1, 0);
        due.is("21: word(6)", x.word(6), 21);
        due.is("21: word(3)", x.word(3), 0);
        due.is("10: access(0, 6, false, 0)", x.access(0, 6, false, 0), 0);
        due.is("16: value(0)", x.value(0), 21);
        due.is("16: value(1)", x.value(1), 0);
        x.unmap(0, 6, 1, true);
        due.is("21: the word stays", x.word(6), 21);
        due.is("16: the value stays", x.value(0), 21);
    }

    private static void accessHasNoLimit() {
        PagerKernel x = pagerAndThread();
        x.spawn(2, 0);
        x.receive(1, -1, 3);
        x.receive(2, -1, 3);
        x.send(0, 1, 0);
        x.send(0, 2, 0);
        x.access(1, 3, true, 21);
        x.receive(0, 1, 0);
        x.access(2, 3, true, 21);
        for (int n = 0; n < 5; n++) {
            due.is("12: tick()", x.tick(), 0);
        }
        isAt(x, 1, 5, 0);
        isAt(x, 2, 4, 0);
    }

    private static void chainOfPagers() {
        PagerKernel x = new PagerKernel();
        x.spawn(1, 0);
        x.spawn(2, 1);
        x.access(0, 11, true, 5);
        x.access(2, 0, false, 0);
        x.receive(1, -1, 0);
        x.access(1, 1, false, 0);
        due.is("7: a pager that faults can't answer", x.send(1, 2, 0), -1);
        x.receive(0, -1, 0);
        x.offer(0, 11, 1, false);
        x.send(0, 1, 0);
        isAt(x, 1, 0, 0);
        x.offer(1, 1, 2, false);
        x.send(1, 2, 0);
        isAt(x, 2, 0, 0);
        due.is("16: value(1)", x.value(1), 5);
        due.is("16: value(2)", x.value(2), 5);
        due.is("18: mapping(2, 0)", x.mapping(2, 0), 2111);
    }
}
