/**
 * A small kernel: threads that pass messages by meeting each other, pages that are handed on
 * with messages and taken back with all that came of them, and faults that become messages to
 * the thread's pager.
 */
public final class PagerKernel {
    private static final int THREADS = 8;
    private static final int REGISTERS = 4;
    private static final int SPACES = 6;
    private static final int PAGES = 16;
    private static final int SLOTS = SPACES * PAGES;
    private static final int FRAMES = 16;
    private static final int DEEPEST = 12;
    private static final int LONGEST_LIMIT = 100;

    /** No thread, no page, no slot; as the thread that is received from: any. */
    private static final int NONE = -1;
    private static final int NO_LIMIT = -1;

    private static final int ABSENT = -1;
    private static final int RUNNING = 0;
    private static final int SENDING = 1;
    private static final int RECEIVING = 2;
    private static final int CALLING = 3;
    private static final int FAULTING = 4;
    private static final int RESTING = 5;
    private static final int STUCK = 6;

    private static final int OUTCOME_DONE = 0;
    private static final int OUTCOME_LIMIT_OVER = 1;
    private static final int OUTCOME_OTHER_DELETED = 2;

    private static final int EMPTY = 0;
    private static final int READING = 1;
    private static final int WRITING = 2;

    private static final int REFUSED = -1;
    private static final int ANSWER_DONE = 0;
    private static final int ANSWER_WAITS = 1;
    private static final int ANSWER_NOT_DONE = 2;

    private final KernelThread[] threads = new KernelThread[THREADS];
    private final MappingTree mappings = new MappingTree();
    private final int[] words = new int[FRAMES];
    private int now = 0;
    private int arrivals = 0;

    public PagerKernel() {
        for (int number = 0; number < THREADS; number++) {
            threads[number] = new KernelThread(number);
        }
        threads[0].begin(0, NONE);
    }

    public int spawn(int space, int pager) {
        if (!isSpace(space) || (pager != NONE && !isThread(pager))) {
            return REFUSED;
        }
        int number = leastFreeNumber();
        if (number == NONE) {
            return REFUSED;
        }
        threads[number].begin(space, pager);
        return number;
    }

    public boolean delete(int t) {
        if (t == 0 || !isThread(t)) {
            return false;
        }
        threads[t].state = ABSENT;
        for (KernelThread other : threads) {
            other.outlive(t);
        }
        return true;
    }

    public boolean load(int t, int k, int v) {
        if (!isRunning(t) || k < 0 || k >= REGISTERS) {
            return false;
        }
        threads[t].registers[k] = v;
        return true;
    }

    public boolean offer(int t, int p, int level, boolean grant) {
        if (!isRunning(t) || !isPageOrNone(p) || (p != NONE && !isLevel(level))) {
            return false;
        }
        KernelThread thread = threads[t];
        thread.offerPage = p;
        thread.offerLevel = level;
        thread.offerGrant = grant;
        return true;
    }

    public boolean window(int t, int p) {
        if (!isRunning(t) || !isPageOrNone(p)) {
            return false;
        }
        threads[t].windowPage = p;
        return true;
    }

    public int send(int t, int to, int limit) {
        if (!maySend(t, to, limit)) {
            return REFUSED;
        }
        if (threads[to].takesFrom(t)) {
            passMessage(threads[t], threads[to], false);
            return ANSWER_DONE;
        }
        return waitToSend(threads[t], SENDING, to, limit);
    }

    public int call(int t, int to, int limit) {
        if (!maySend(t, to, limit)) {
            return REFUSED;
        }
        if (threads[to].takesFrom(t)) {
            passMessage(threads[t], threads[to], true);
            return ANSWER_WAITS;
        }
        return waitToSend(threads[t], CALLING, to, limit);
    }

    public int receive(int t, int from, int limit) {
        if (!isRunning(t) || from == t || (from != NONE && !isThread(from)) || !isLimit(limit)) {
            return REFUSED;
        }
        KernelThread receiver = threads[t];
        KernelThread first = longestWaiting(t, from);
        if (first != null) {
            takeWaitingMessage(first, receiver);
            return ANSWER_DONE;
        }
        if (limit == 0) {
            return giveUp(receiver);
        }
        receiver.waitFor(RECEIVING, from, deadline(limit));
        return ANSWER_WAITS;
    }

    public int access(int t, int p, boolean store, int v) {
        if (!isRunning(t) || !isPage(p)) {
            return REFUSED;
        }
        KernelThread thread = threads[t];
        thread.wantedPage = p;
        thread.wantedLevel = store ? WRITING : READING;
        thread.wantedWord = v;
        tryAccess(thread);
        if (thread.state == RUNNING) {
            return ANSWER_DONE;
        }
        return thread.state == STUCK ? ANSWER_NOT_DONE : ANSWER_WAITS;
    }

    public int unmap(int t, int p, int level, boolean self) {
        if (!isRunning(t) || !isPage(p) || !isLevel(level)) {
            return REFUSED;
        }
        int slot = slotOf(threads[t].space, p);
        if (!mappings.holds(slot)) {
            return 0;
        }
        // Without the level 2 a mapping is left with 1, without the level 1 nothing is left of it.
        int left = level - 1;
        return mappings.lowerDescendants(slot, left) + (self ? mappings.lower(slot, left) : 0);
    }

    public int tick() {
        now++;
        int ended = 0;
        for (KernelThread thread : threads) {
            if (thread.waitsForThread() && thread.deadline == now) {
                thread.run(OUTCOME_LIMIT_OVER);
                ended++;
            }
        }
        return ended;
    }

    public int state(int t) {
        return isThread(t) ? threads[t].state : -1;
    }

    public int register(int t, int k) {
        if (!isThread(t) || k < 0 || k > REGISTERS) {
            return 0;
        }
        return k == REGISTERS ? threads[t].messagesTaken : threads[t].registers[k];
    }

    public int outcome(int t) {
        return isThread(t) ? threads[t].lastOutcome : -1;
    }

    public int value(int t) {
        return isThread(t) ? threads[t].lastValue : 0;
    }

    public int sender(int t) {
        return isThread(t) ? threads[t].lastSender : -1;
    }

    public int mapping(int space, int p) {
        if (!isSpace(space) || !isPage(p)) {
            return -1;
        }
        return mappings.describe(slotOf(space, p));
    }

    public int heirs(int space, int p) {
        if (!isSpace(space) || !isPage(p) || !mappings.holds(slotOf(space, p))) {
            return -1;
        }
        return mappings.countDescendants(slotOf(space, p));
    }

    public int waiting(int t) {
        if (!isThread(t)) {
            return -1;
        }
        int count = 0;
        for (KernelThread thread : threads) {
            if (thread.waitsToSendTo(t)) {
                count++;
            }
        }
        return count;
    }

    public int word(int frame) {
        return frame >= 0 && frame < FRAMES ? words[frame] : 0;
    }

    private boolean isThread(int t) {
        return t >= 0 && t < THREADS && threads[t].state != ABSENT;
    }

    private boolean isRunning(int t) {
        return isThread(t) && threads[t].state == RUNNING;
    }

    private boolean maySend(int t, int to, int limit) {
        return isRunning(t) && to != t && isThread(to) && isLimit(limit);
    }

    private static boolean isSpace(int space) {
        return space >= 0 && space < SPACES;
    }

    private static boolean isPage(int p) {
        return p >= 0 && p < PAGES;
    }

    private static boolean isPageOrNone(int p) {
        return p == NONE || isPage(p);
    }

    private static boolean isLevel(int level) {
        return level == READING || level == WRITING;
    }

    private static boolean isLimit(int limit) {
        return limit >= NO_LIMIT && limit <= LONGEST_LIMIT;
    }

    private static int slotOf(int space, int p) {
        return space * PAGES + p;
    }

    private int deadline(int limit) {
        return limit == NO_LIMIT ? NO_LIMIT : now + limit;
    }

    private int leastFreeNumber() {
        for (int number = 0; number < THREADS; number++) {
            if (threads[number].state == ABSENT) {
                return number;
            }
        }
        return NONE;
    }

    private KernelThread longestWaiting(int t, int from) {
        KernelThread first = null;
        for (KernelThread thread : threads) {
            boolean asked = from == NONE || from == thread.number;
            if (asked && thread.waitsToSendTo(t) && (first == null || thread.arrival < first.arrival)) {
                first = thread;
            }
        }
        return first;
    }

    private int waitToSend(KernelThread thread, int state, int to, int limit) {
        if (limit == 0) {
            return giveUp(thread);
        }
        joinLine(thread, state, to, deadline(limit));
        return ANSWER_WAITS;
    }

    private static int giveUp(KernelThread thread) {
        thread.run(OUTCOME_LIMIT_OVER);
        return ANSWER_NOT_DONE;
    }

    private void joinLine(KernelThread thread, int state, int target, int deadline) {
        // NOW stands still between ticks, so it can't tell who came first.
        thread.arrival = arrivals;
        arrivals++;
        thread.waitFor(state, target, deadline);
    }

    private void takeWaitingMessage(KernelThread from, KernelThread receiver) {
        if (from.state == FAULTING) {
            passFault(from, receiver);
        } else {
            passMessage(from, receiver, from.state == CALLING);
        }
    }

    private void passMessage(KernelThread from, KernelThread to, boolean calls) {
        boolean rests = to.state == RESTING;
        if (!rests) {
            int[] sent = from.registers;
            to.take(from.number, sent[0], sent[1], sent[2], sent[3]);
        }
        passOffer(from, to);
        if (calls) {
            from.waitFor(RECEIVING, to.number, NO_LIMIT);
        } else {
            from.run(OUTCOME_DONE);
        }
        // The sender's new state comes first: a caller may get the next fault of a resting thread.
        if (rests) {
            tryAccess(to);
        } else {
            to.run(OUTCOME_DONE);
        }
    }

    private void passOffer(KernelThread from, KernelThread to) {
        int page = to.state == RESTING ? to.wantedPage : to.windowPage;
        if (from.offerPage != NONE && page != NONE) {
            int source = slotOf(from.space, from.offerPage);
            mappings.handOn(source, slotOf(to.space, page), from.offerLevel, from.offerGrant);
        }
        from.offerPage = NONE;
    }

    private void passFault(KernelThread from, KernelThread pager) {
        pager.take(from.number, from.wantedPage, from.wantedLevel, 0, 0);
        from.waitFor(RESTING, pager.number, NO_LIMIT);
        pager.run(OUTCOME_DONE);
    }

    private void tryAccess(KernelThread thread) {
        int slot = slotOf(thread.space, thread.wantedPage);
        if (mappings.level[slot] >= thread.wantedLevel) {
            doAccess(thread, mappings.frame[slot]);
        } else if (thread.pager == NONE) {
            thread.state = STUCK;
        } else {
            fault(thread, threads[thread.pager]);
        }
    }

    private void doAccess(KernelThread thread, int frame) {
        if (thread.wantedLevel == WRITING) {
            words[frame] = thread.wantedWord;
        } else {
            thread.lastValue = words[frame];
        }
        thread.run(OUTCOME_DONE);
    }

    private void fault(KernelThread thread, KernelThread pager) {
        joinLine(thread, FAULTING, pager.number, NO_LIMIT);
        if (pager.receivesFrom(thread.number)) {
            passFault(thread, pager);
        }
    }

    /** A thread's row; it is made once and used again for each thread that gets its number. */
    private static final class KernelThread {
        final int number;
        final int[] registers = new int[REGISTERS];
        int state = ABSENT;
        int space;
        int pager;
        int offerPage;
        int offerLevel;
        boolean offerGrant;
        int windowPage;
        int lastOutcome;
        int lastSender;
        int lastValue;
        int messagesTaken;
        /** The target or the source of a thread that waits, NONE for any. */
        int partner;
        /** NOW at the end of the wait, or NO_LIMIT. */
        int deadline;
        /** Its place in the order in which threads came to wait until they can send. */
        int arrival;
        int wantedPage;
        int wantedLevel;
        int wantedWord;

        KernelThread(int number) {
            this.number = number;
        }

        void begin(int newSpace, int newPager) {
            for (int k = 0; k < REGISTERS; k++) {
                registers[k] = 0;
            }
            state = RUNNING;
            space = newSpace;
            pager = newPager;
            offerPage = NONE;
            windowPage = NONE;
            lastOutcome = OUTCOME_DONE;
            lastSender = NONE;
            lastValue = 0;
            messagesTaken = 0;
        }

        void run(int outcome) {
            state = RUNNING;
            lastOutcome = outcome;
        }

        void waitFor(int newState, int newPartner, int newDeadline) {
            state = newState;
            partner = newPartner;
            deadline = newDeadline;
        }

        void take(int sender, int first, int second, int third, int fourth) {
            registers[0] = first;
            registers[1] = second;
            registers[2] = third;
            registers[3] = fourth;
            lastSender = sender;
            messagesTaken++;
        }

        void outlive(int deleted) {
            if (waitsForThread() && partner == deleted) {
                run(OUTCOME_OTHER_DELETED);
            }
            if (pager == deleted) {
                pager = NONE;
                if (state == FAULTING || state == RESTING) {
                    state = STUCK;
                }
            }
        }

        boolean waitsForThread() {
            return state == SENDING || state == RECEIVING || state == CALLING;
        }

        boolean waitsToSendTo(int t) {
            return (state == SENDING || state == CALLING || state == FAULTING) && partner == t;
        }

        boolean receivesFrom(int t) {
            return state == RECEIVING && (partner == NONE || partner == t);
        }

        boolean takesFrom(int t) {
            return receivesFrom(t) || (state == RESTING && partner == t);
        }
    }

    /** The mappings of all pages; a page's slot is 16 times its space plus its number. */
    private static final class MappingTree {
        /** EMPTY where the slot holds no mapping; what the other rows say there counts nothing. */
        final int[] level = new int[SLOTS];
        final int[] frame = new int[SLOTS];
        final int[] depth = new int[SLOTS];
        final int[] parent = new int[SLOTS];

        MappingTree() {
            for (int page = 0; page < PAGES; page++) {
                level[page] = WRITING;
                frame[page] = page;
                parent[page] = NONE;
            }
        }

        boolean holds(int slot) {
            return level[slot] != EMPTY;
        }

        int describe(int slot) {
            return holds(slot) ? 1000 * depth[slot] + 10 * frame[slot] + level[slot] : -1;
        }

        boolean descends(int slot, int ancestor) {
            int above = slot;
            for (int steps = depth[slot]; steps > 0 && above != NONE; steps--) {
                above = parent[above];
                if (above == ancestor) {
                    return true;
                }
            }
            return false;
        }

        int countDescendants(int ancestor) {
            int count = 0;
            for (int slot = 0; slot < SLOTS; slot++) {
                if (holds(slot) && descends(slot, ancestor)) {
                    count++;
                }
            }
            return count;
        }

        /** Lowers the descendants to a level, EMPTY to remove them; answers how many had more. */
        int lowerDescendants(int ancestor, int left) {
            int count = 0;
            for (int slot = 0; slot < SLOTS; slot++) {
                // An emptied slot keeps its parent, so that those below it are still found.
                if (holds(slot) && descends(slot, ancestor)) {
                    count += lower(slot, left);
                }
            }
            return count;
        }

        int lower(int slot, int left) {
            if (level[slot] <= left) {
                return 0;
            }
            level[slot] = left;
            return 1;
        }

        void handOn(int source, int target, int offered, boolean grant) {
            if (source == target || !holds(source)) {
                return;
            }
            if (holds(target)) {
                lowerDescendants(target, EMPTY);
                lower(target, EMPTY);
            }
            // What came of the target page may have been the source itself.
            if (!holds(source)) {
                return;
            }
            if (grant) {
                move(source, target);
            } else if (depth[source] < DEEPEST) {
                derive(source, target, Math.min(offered, level[source]));
            }
        }

        void move(int source, int target) {
            level[target] = level[source];
            frame[target] = frame[source];
            depth[target] = depth[source];
            parent[target] = parent[source];
            for (int slot = 0; slot < SLOTS; slot++) {
                if (holds(slot) && parent[slot] == source) {
                    parent[slot] = target;
                }
            }
            level[source] = EMPTY;
        }

        void derive(int source, int target, int newLevel) {
            level[target] = newLevel;
            frame[target] = frame[source];
            depth[target] = depth[source] + 1;
            parent[target] = source;
        }
    }
}
