/** Promises 5, 6, 11, 18 and 19: offer, window, unmap, mapping, heirs. */
public final class PagesTest {
    private static final Due due = new Due("PagesTest");
    private static final int LEAST = Integer.MIN_VALUE;
    private static final int GREATEST = Integer.MAX_VALUE;

    public static void main(String[] args) {
        noOfferAndNoWindowAtFirst();
        offerRefuses();
        windowRefuses();
        offerIsGoneAfterTheMessage();
        offerStaysWhenNothingIsSent();
        windowStays();
        lesserLevel();
        offeredPageIsLookedAtWithTheMessage();
        samePage();
        emptyPage();
        whatTheWindowHeldIsRemoved();
        sourceRemovedWithTheWindow();
        grantMoves();
        grantOntoItsOwnChild();
        grantWithinASpace();
        deepest();
        callAndFetchedMessagesHandOn();
        unmapRemoves();
        unmapLowers();
        unmapAfterGrant();
        firstPageOfTheFirstSpaceAsADescendant();
        unmapRefuses();
        askingOfNoPage();
        due.end();
    }

    /** Threads 0 .. 5, thread t in space t and without a pager. */
    private static PagerKernel spaces() {
        PagerKernel x = new PagerKernel();
        for (int t = 1; t < 6; t++) {
            x.spawn(t, -1);
        }
        return x;
    }

    /** The offer goes from page p of thread s to page q of thread r. */
    private static void hand(PagerKernel x, int s, int p, int r, int q, int level, boolean grant) {
        due.yes("6: window(" + r + ", " + q + ")", x.window(r, q));
        due.yes("5: offer(" + s + ", " + p + ")", x.offer(s, p, level, grant));
        due.is("9: receive(" + r + ")", x.receive(r, s, -1), 1);
        due.is("7: send(" + s + ", " + r + ")", x.send(s, r, 0), 0);
    }

    private static void isMapped(PagerKernel x, int space, int p, int mapping, int heirs) {
        due.is("18: mapping(" + space + ", " + p + ")", x.mapping(space, p), mapping);
        due.is("19: heirs(" + space + ", " + p + ")", x.heirs(space, p), heirs);
    }

    private static void noOfferAndNoWindowAtFirst() {
        PagerKernel x = spaces();
        x.spawn(0, -1);
        for (int s = 0; s <= 6; s += 6) {
            x.window(1, 0);
            x.receive(1, s, -1);
            x.send(s, 1, 0);
            isMapped(x, 1, 0, -1, -1);
        }
        x.receive(6, 0, -1);
        x.offer(0, 5, 2, false);
        x.send(0, 6, 0);
        isMapped(x, 0, 5, 52, 0);
    }

    private static void offerRefuses() {
        PagerKernel x = spaces();
        due.yes("5: offer(0, 3, 1, false)", x.offer(0, 3, 1, false));
        due.no("5: offer(0, -2, 1)", x.offer(0, -2, 1, false));
        due.no("5: offer(0, 16, 1)", x.offer(0, 16, 1, false));
        due.no("5: offer(0, LEAST, 1)", x.offer(0, LEAST, 1, true));
        due.no("5: offer(0, GREATEST, 1)", x.offer(0, GREATEST, 1, true));
        due.no("5: offer(0, 4, 0)", x.offer(0, 4, 0, false));
        due.no("5: offer(0, 4, 3)", x.offer(0, 4, 3, false));
        due.no("5: offer(0, 4, LEAST)", x.offer(0, 4, LEAST, true));
        due.no("5: offer(0, 4, GREATEST)", x.offer(0, 4, GREATEST, true));
        due.no("5: offer(6, 4, 1)", x.offer(6, 4, 1, false));
        due.no("5: offer(-1, 4, 1)", x.offer(-1, 4, 1, false));
        due.no("5: offer(8, 4, 1)", x.offer(8, 4, 1, false));
        x.window(1, 0);
        x.receive(1, 0, -1);
        x.send(0, 1, 0);
        isMapped(x, 1, 0, 1031, 0);
        due.yes("5: offer(0, 5, 2, true)", x.offer(0, 5, 2, true));
        due.yes("5: offer(0, -1, GREATEST, true)", x.offer(0, -1, GREATEST, true));
        x.receive(1, 0, -1);
        x.send(0, 1, 0);
        isMapped(x, 1, 0, 1031, 0);
        isMapped(x, 0, 5, 52, 0);
        due.yes("5: offer(1, 9, 1), an empty page", x.offer(1, 9, 1, false));
        due.yes("5: offer(0, 0, 2)", x.offer(0, 0, 2, false));
        due.yes("5: offer(0, 15, 2)", x.offer(0, 15, 2, false));
        x.receive(1, 0, -1);
        x.send(0, 1, 0);
        isMapped(x, 1, 0, 1152, 0);
    }

    private static void windowRefuses() {
        PagerKernel x = spaces();
        due.yes("6: window(1, 15)", x.window(1, 15));
        due.no("6: window(1, -2)", x.window(1, -2));
        due.no("6: window(1, 16)", x.window(1, 16));
        due.no("6: window(1, LEAST)", x.window(1, LEAST));
        due.no("6: window(1, GREATEST)", x.window(1, GREATEST));
        due.no("6: window(6, 0)", x.window(6, 0));
        due.no("6: window(-1, 0)", x.window(-1, 0));
        due.no("6: window(8, 0)", x.window(8, 0));
        x.offer(0, 1, 2, false);
        x.receive(1, 0, -1);
        x.send(0, 1, 0);
        isMapped(x, 1, 15, 1012, 0);
        due.yes("6: window(1, 0)", x.window(1, 0));
        due.yes("6: window(1, -1)", x.window(1, -1));
        x.offer(0, 2, 2, false);
        x.receive(1, 0, -1);
        x.send(0, 1, 0);
        isMapped(x, 1, 15, 1012, 0);
        isMapped(x, 1, 0, -1, -1);
    }

    private static void offerIsGoneAfterTheMessage() {
        PagerKernel x = spaces();
        x.offer(0, 1, 2, false);
        x.receive(1, 0, -1);
        x.send(0, 1, 0);
        isMapped(x, 0, 1, 12, 0);
        x.window(1, 4);
        x.receive(1, 0, -1);
        x.send(0, 1, 0);
        isMapped(x, 1, 4, -1, -1);
        hand(x, 0, 1, 1, 4, 2, false);
        x.window(1, 5);
        x.receive(1, 0, -1);
        x.send(0, 1, 0);
        isMapped(x, 1, 5, -1, -1);
        isMapped(x, 1, 4, 1012, 0);
    }

    private static void offerStaysWhenNothingIsSent() {
        PagerKernel x = spaces();
        x.offer(0, 1, 2, false);
        x.window(1, 4);
        due.is("7: send(0, 1, 0)", x.send(0, 1, 0), 2);
        due.is("7: send(0, 1, 1)", x.send(0, 1, 1), 1);
        due.is("12: tick()", x.tick(), 1);
        x.receive(1, 0, -1);
        x.send(0, 1, 0);
        isMapped(x, 1, 4, 1012, 0);
    }

    private static void windowStays() {
        PagerKernel x = spaces();
        hand(x, 0, 1, 1, 4, 2, false);
        x.offer(0, 2, 1, false);
        x.receive(1, 0, -1);
        x.send(0, 1, 0);
        isMapped(x, 1, 4, 1021, 0);
        isMapped(x, 0, 1, 12, 0);
        isMapped(x, 0, 2, 22, 1);
        x.receive(1, 0, -1);
        x.send(0, 1, 0);
        isMapped(x, 1, 4, 1021, 0);
    }

    private static void lesserLevel() {
        PagerKernel x = spaces();
        hand(x, 0, 1, 1, 0, 2, false);
        hand(x, 0, 1, 1, 1, 1, false);
        hand(x, 1, 1, 2, 0, 2, false);
        hand(x, 1, 0, 2, 1, 1, false);
        isMapped(x, 1, 0, 1012, 1);
        isMapped(x, 1, 1, 1011, 1);
        isMapped(x, 2, 0, 2011, 0);
        isMapped(x, 2, 1, 2011, 0);
        isMapped(x, 0, 1, 12, 4);
    }

    private static void offeredPageIsLookedAtWithTheMessage() {
        PagerKernel x = spaces();
        x.window(2, 6);
        x.offer(1, 3, 2, false);
        due.is("7: send(1, 2, -1)", x.send(1, 2, -1), 1);
        x.spawn(1, -1);
        hand(x, 0, 7, 6, 3, 2, false);
        due.is("9: receive(2, 1, 0)", x.receive(2, 1, 0), 0);
        isMapped(x, 2, 6, 2072, 0);

        x.offer(1, 3, 2, false);
        x.window(2, 8);
        x.send(1, 2, -1);
        x.unmap(0, 7, 2, false);
        x.receive(2, 1, 0);
        isMapped(x, 2, 8, 2071, 0);
        x.offer(1, 3, 2, false);
        x.window(2, 8);
        x.send(1, 2, -1);
        x.unmap(0, 7, 1, false);
        x.receive(2, 1, 0);
        isMapped(x, 2, 8, -1, -1);
    }

    private static void samePage() {
        PagerKernel x = spaces();
        due.is("2: spawn(0, -1)", x.spawn(0, -1), 6);
        hand(x, 0, 3, 1, 3, 2, false);
        hand(x, 0, 3, 6, 3, 1, false);
        isMapped(x, 0, 3, 32, 1);
        hand(x, 0, 3, 6, 3, 1, true);
        isMapped(x, 0, 3, 32, 1);
        isMapped(x, 1, 3, 1032, 0);
    }

    private static void emptyPage() {
        PagerKernel x = spaces();
        hand(x, 0, 3, 1, 3, 2, false);
        hand(x, 2, 5, 1, 3, 2, false);
        isMapped(x, 1, 3, 1032, 0);
        hand(x, 2, 5, 1, 3, 2, true);
        isMapped(x, 1, 3, 1032, 0);
    }

    private static void whatTheWindowHeldIsRemoved() {
        PagerKernel x = spaces();
        hand(x, 0, 3, 1, 3, 2, false);
        hand(x, 1, 3, 2, 3, 2, false);
        hand(x, 2, 3, 3, 3, 2, false);
        hand(x, 0, 3, 4, 0, 2, false);
        isMapped(x, 0, 3, 32, 4);
        hand(x, 0, 9, 1, 3, 1, false);
        isMapped(x, 1, 3, 1091, 0);
        isMapped(x, 2, 3, -1, -1);
        isMapped(x, 3, 3, -1, -1);
        isMapped(x, 4, 0, 1032, 0);
        isMapped(x, 0, 3, 32, 1);
        isMapped(x, 0, 9, 92, 1);
        hand(x, 0, 9, 1, 3, 2, false);
        isMapped(x, 1, 3, 1092, 0);
        isMapped(x, 0, 9, 92, 1);
    }

    private static void sourceRemovedWithTheWindow() {
        PagerKernel x = spaces();
        hand(x, 0, 3, 1, 3, 2, false);
        hand(x, 1, 3, 2, 3, 2, false);
        hand(x, 2, 3, 0, 3, 2, false);
        isMapped(x, 0, 3, -1, -1);
        isMapped(x, 1, 3, -1, -1);
        isMapped(x, 2, 3, -1, -1);
        hand(x, 0, 4, 1, 4, 2, false);
        hand(x, 1, 4, 0, 4, 2, true);
        isMapped(x, 0, 4, -1, -1);
        isMapped(x, 1, 4, -1, -1);
    }

    private static void grantMoves() {
        PagerKernel x = spaces();
        hand(x, 0, 5, 1, 3, 2, false);
        hand(x, 1, 3, 2, 0, 2, false);
        hand(x, 1, 3, 2, 1, 1, false);
        hand(x, 2, 0, 3, 0, 2, false);
        hand(x, 1, 3, 4, 9, 1, true);
        isMapped(x, 1, 3, -1, -1);
        isMapped(x, 4, 9, 1052, 3);
        isMapped(x, 0, 5, 52, 4);
        isMapped(x, 2, 0, 2052, 1);
        hand(x, 0, 6, 1, 3, 2, false);
        isMapped(x, 1, 3, 1062, 0);
        hand(x, 4, 9, 1, 3, 2, true);
        isMapped(x, 1, 3, 1052, 3);
        isMapped(x, 0, 6, 62, 0);
        hand(x, 0, 5, 5, 15, 2, true);
        isMapped(x, 0, 5, -1, -1);
        isMapped(x, 5, 15, 52, 4);
        due.is("11: unmap(5, 15, 1, true)", x.unmap(5, 15, 1, true), 5);
        isMapped(x, 3, 0, -1, -1);
    }

    private static void grantOntoItsOwnChild() {
        PagerKernel x = spaces();
        hand(x, 0, 5, 1, 3, 2, false);
        hand(x, 1, 3, 2, 0, 2, false);
        hand(x, 1, 3, 3, 0, 1, false);
        hand(x, 2, 0, 4, 0, 2, false);
        hand(x, 1, 3, 2, 0, 2, true);
        isMapped(x, 1, 3, -1, -1);
        isMapped(x, 2, 0, 1052, 1);
        isMapped(x, 3, 0, 2051, 0);
        isMapped(x, 4, 0, -1, -1);
        isMapped(x, 0, 5, 52, 2);
    }

    private static void grantWithinASpace() {
        PagerKernel x = spaces();
        x.spawn(0, -1);
        hand(x, 0, 5, 6, 6, 1, true);
        isMapped(x, 0, 5, -1, -1);
        isMapped(x, 0, 6, 52, 0);
        hand(x, 6, 6, 0, 7, 1, false);
        isMapped(x, 0, 7, 1051, 0);
        isMapped(x, 0, 6, 52, 1);
    }

    private static void deepest() {
        PagerKernel x = spaces();
        hand(x, 0, 3, 1, 0, 2, false);
        for (int depth = 2; depth <= 12; depth++) {
            int from = 1 + depth % 2;
            hand(x, from, (depth - 2) / 2, 3 - from, (depth - 1) / 2, 2, false);
            isMapped(x, 3 - from, (depth - 1) / 2, 1000 * depth + 32, 0);
        }
        isMapped(x, 0, 3, 32, 12);
        isMapped(x, 2, 5, 12032, 0);
        hand(x, 2, 5, 3, 0, 1, false);
        isMapped(x, 3, 0, -1, -1);
        hand(x, 0, 4, 3, 1, 2, false);
        hand(x, 3, 1, 4, 1, 2, false);
        hand(x, 2, 5, 3, 1, 1, false);
        isMapped(x, 3, 1, -1, -1);
        isMapped(x, 4, 1, -1, -1);
        isMapped(x, 0, 4, 42, 0);
        hand(x, 2, 5, 3, 2, 1, true);
        isMapped(x, 3, 2, 12032, 0);
        isMapped(x, 2, 5, -1, -1);
        due.is("11: unmap(1, 5, 2, false)", x.unmap(1, 5, 2, false), 1);
        isMapped(x, 3, 2, 12031, 0);
        due.is("11: unmap(0, 3, 2, true)", x.unmap(0, 3, 2, true), 12);
        due.is("11: unmap(0, 3, 1, false)", x.unmap(0, 3, 1, false), 12);
        isMapped(x, 3, 2, -1, -1);
        isMapped(x, 0, 3, 31, 0);
    }

    private static void callAndFetchedMessagesHandOn() {
        PagerKernel x = spaces();
        x.window(1, 0);
        x.window(0, 15);
        x.offer(0, 1, 2, false);
        due.is("8: call(0, 1, 5)", x.call(0, 1, 5), 1);
        due.is("9: receive(1, -1, 0)", x.receive(1, -1, 0), 0);
        isMapped(x, 1, 0, 1012, 0);
        x.offer(1, 0, 1, false);
        x.send(1, 0, 0);
        isMapped(x, 0, 15, 2011, 0);
        x.window(1, 1);
        x.receive(1, -1, -1);
        x.offer(0, 2, 1, false);
        due.is("8: call(0, 1, 0)", x.call(0, 1, 0), 1);
        isMapped(x, 1, 1, 1021, 0);
    }

    private static void unmapRemoves() {
        PagerKernel x = spaces();
        due.is("11: no descendants", x.unmap(0, 3, 1, false), 0);
        hand(x, 0, 3, 1, 3, 2, false);
        hand(x, 1, 3, 2, 3, 2, false);
        hand(x, 1, 3, 2, 4, 1, false);
        hand(x, 2, 3, 0, 10, 2, false);
        hand(x, 0, 3, 4, 4, 1, false);
        isMapped(x, 0, 3, 32, 5);
        isMapped(x, 0, 10, 3032, 0);
        due.is("11: unmap(1, 3, 1, false)", x.unmap(1, 3, 1, false), 3);
        isMapped(x, 1, 3, 1032, 0);
        isMapped(x, 2, 3, -1, -1);
        isMapped(x, 2, 4, -1, -1);
        isMapped(x, 0, 10, -1, -1);
        isMapped(x, 4, 4, 1031, 0);
        due.is("11: unmap(1, 3, 1, true)", x.unmap(1, 3, 1, true), 1);
        isMapped(x, 1, 3, -1, -1);
        due.is("11: an empty page", x.unmap(1, 3, 1, true), 0);
        due.is("11: an empty page", x.unmap(1, 3, 2, true), 0);
        due.is("11: unmap(0, 3, 1, true)", x.unmap(0, 3, 1, true), 2);
        isMapped(x, 4, 4, -1, -1);
        isMapped(x, 0, 3, -1, -1);
        isMapped(x, 0, 2, 22, 0);
    }

    private static void unmapLowers() {
        PagerKernel x = spaces();
        hand(x, 0, 3, 1, 3, 2, false);
        hand(x, 1, 3, 2, 3, 2, false);
        hand(x, 1, 3, 2, 4, 1, false);
        due.is("11: unmap(1, 3, 2, false)", x.unmap(1, 3, 2, false), 1);
        isMapped(x, 1, 3, 1032, 2);
        isMapped(x, 2, 3, 2031, 0);
        isMapped(x, 2, 4, 2031, 0);
        due.is("11: unmap(1, 3, 2, false)", x.unmap(1, 3, 2, false), 0);
        due.is("11: unmap(0, 3, 2, true)", x.unmap(0, 3, 2, true), 2);
        isMapped(x, 0, 3, 31, 3);
        isMapped(x, 1, 3, 1031, 2);
        due.is("11: unmap(0, 3, 2, true)", x.unmap(0, 3, 2, true), 0);
        due.is("11: unmap(0, 3, 1, true)", x.unmap(0, 3, 1, true), 4);
    }

    private static void unmapAfterGrant() {
        PagerKernel x = spaces();
        hand(x, 0, 3, 1, 3, 2, false);
        hand(x, 1, 3, 2, 3, 2, true);
        hand(x, 0, 4, 1, 3, 2, false);
        due.is("11: unmap(1, 3, 1, false)", x.unmap(1, 3, 1, false), 0);
        isMapped(x, 2, 3, 1032, 0);
        due.is("11: unmap(0, 3, 1, false)", x.unmap(0, 3, 1, false), 1);
        isMapped(x, 2, 3, -1, -1);
        isMapped(x, 1, 3, 1042, 0);
    }

    private static void firstPageOfTheFirstSpaceAsADescendant() {
        PagerKernel x = spaces();
        hand(x, 0, 3, 1, 3, 2, false);
        hand(x, 1, 3, 0, 0, 2, false);
        hand(x, 0, 0, 4, 4, 2, false);
        isMapped(x, 0, 0, 2032, 1);
        isMapped(x, 0, 3, 32, 3);
        hand(x, 1, 3, 2, 2, 2, true);
        isMapped(x, 2, 2, 1032, 2);
        due.is("11: unmap(2, 2, 1, false)", x.unmap(2, 2, 1, false), 2);
        isMapped(x, 0, 0, -1, -1);
        isMapped(x, 4, 4, -1, -1);
    }

    private static void unmapRefuses() {
        PagerKernel x = spaces();
        hand(x, 0, 3, 1, 3, 2, false);
        due.is("11: unmap(0, -1, 1)", x.unmap(0, -1, 1, true), -1);
        due.is("11: unmap(0, 16, 1)", x.unmap(0, 16, 1, true), -1);
        due.is("11: unmap(0, LEAST, 1)", x.unmap(0, LEAST, 1, true), -1);
        due.is("11: unmap(0, GREATEST, 1)", x.unmap(0, GREATEST, 1, true), -1);
        due.is("11: unmap(0, 3, 0)", x.unmap(0, 3, 0, true), -1);
        due.is("11: unmap(0, 3, 3)", x.unmap(0, 3, 3, true), -1);
        due.is("11: unmap(0, 3, LEAST)", x.unmap(0, 3, LEAST, true), -1);
        due.is("11: unmap(0, 3, GREATEST)", x.unmap(0, 3, GREATEST, true), -1);
        due.is("11: an empty page, level 0", x.unmap(1, 0, 0, true), -1);
        due.is("11: unmap(6, 3, 1)", x.unmap(6, 3, 1, true), -1);
        due.is("11: unmap(-1, 3, 1)", x.unmap(-1, 3, 1, true), -1);
        due.is("11: unmap(8, 3, 1)", x.unmap(8, 3, 1, true), -1);
        isMapped(x, 0, 3, 32, 1);
        isMapped(x, 1, 3, 1032, 0);
    }

    private static void askingOfNoPage() {
        PagerKernel x = spaces();
        int[][] none = {{-1, 0}, {6, 0}, {0, -1}, {0, 16}, {LEAST, 0}, {GREATEST, 0}, {0, LEAST}, {0, GREATEST}, {1, -1}, {-1, 16}};
        for (int[] page : none) {
            isMapped(x, page[0], page[1], -1, -1);
        }
        isMapped(x, 5, 15, -1, -1);
        isMapped(x, 0, 15, 152, 0);
    }
}
