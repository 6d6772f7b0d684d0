/** The boundary cases of promises 1 to 21, sentence by sentence, each with runs of its own. */
public final class CallsEdgesTest {
    private static final Sentences sentences = new Sentences("CallsEdgesTest");

    /** A row per limit that is none. */
    private static final String[] NO_LIMITS = {"-2", "101", "MIN", "MAX"};

    /** Thread 1 is in space 4 and thread 2 in space 1; page 6 of these holds frame 3 and 4. */
    private static final String OTHER_NUMBERS = "spawn(4, -1) = 1; spawn(1, -1) = 2\n" + Texts.map(0, 3, 1, 6)
        + Texts.map(0, 4, 2, 6);

    public static void main(String[] args) {
        newObject();
        spawn();
        delete();
        load();
        offer();
        window();
        send();
        call();
        receive();
        receiveOrder();
        access();
        unmapRemoves();
        unmapLowers();
        unmapRefuses();
        tick();
        state();
        register();
        outcome();
        valueAndSender();
        mappingAndHeirs();
        waitingAndWord();
        sentences.end();
    }

    /** The text once for each word, T standing for the word. */
    private static String each(String text, String... words) {
        StringBuilder all = new StringBuilder();
        for (String word : words) {
            all.append(text.replace("T", word)).append("\n");
        }
        return all.toString();
    }

    private static void newObject() {
        sentences.hold("1", "Thread 0 alone, as said above.",
            "state(0) = 0\n" + each("state(T) = -1", "1", "2", "3", "4", "5", "6", "7", "8", "-1") + "spawn(0, -1) = 1",
            Texts.registers(0, 0, 0, 0, 0, 0) + "outcome(0) = 0; sender(0) = -1; value(0) = 0; waiting(0) = 0; tick() = 0");
    }

    private static void spawn() {
        String full = "7 x spawn(0, -1)\n";
        sentences.hold("2", "Makes a thread in a space, with a pager (-1: none)",
            "spawn(5, -1) = 1; access(1, 0, false, 0) = 2; spawn(5, 1) = 2; access(2, 0, false, 0) = 1; waiting(1) = 1",
            "spawn(0, 0) = 1; access(1, 15, true, 5) = 0; word(15) = 5");
        sentences.hold("2", "it gets the least number that no thread has, which is answered",
            "spawn(0, -1) = 1; spawn(0, -1) = 2; spawn(0, -1) = 3; delete(2) = true; delete(1) = true; state(3) = 0\n"
                + "spawn(0, -1) = 1; spawn(0, -1) = 2; spawn(0, -1) = 4",
            full + "delete(7) = true; spawn(0, -1) = 7; delete(3) = true; delete(5) = true; spawn(0, -1) = 3; spawn(0, -1) = 5");
        sentences.hold("2", "Refused with -1 if space is not 0 .. 5",
            each("spawn(T, -1) = -1; spawn(T, 0) = -1", "-1", "6", "MIN", "MAX") + "state(1) = -1; spawn(0, -1) = 1\n"
                + "spawn(5, -1) = 2");
        sentences.hold("2", "pager is neither -1 nor a thread",
            each("spawn(0, T) = -1", "-2", "1", "7", "8", "MIN", "MAX") + "state(1) = -1; spawn(0, 0) = 1; spawn(0, 1) = 2",
            "spawn(0, -1) = 1; delete(1) = true; spawn(0, 1) = -1; state(1) = -1",
            full + "delete(7) = true; spawn(0, 7) = -1; spawn(0, 6) = 7");
        sentences.hold("2", "or eight threads are there",
            full + "spawn(0, -1) = -1; spawn(5, 7) = -1; delete(4) = true; spawn(5, 7) = 4; spawn(5, 7) = -1");
    }

    private static void delete() {
        sentences.hold("3", "Deletes thread t: true",
            "spawn(0, -1) = 1; delete(1) = true; state(1) = -1; outcome(1) = -1; waiting(1) = -1; send(0, 1, -1) = -1",
            Texts.ALL_STATES + each("delete(T) = true; state(T) = -1", "1", "2", "3", "4", "5", "6") + "state(0) = 0\n"
                + "waiting(0) = 0",
            Texts.ALL_STATES.replace("spawn(1, -1) = 6", "spawn(1, -1) = 6; spawn(1, -1) = 7") + "delete(7) = true\n"
                + "state(7) = -1");
        sentences.hold("3", "refused with false if there is none",
            each("delete(T) = false", "-1", "1", "7", "8", "MIN", "MAX") + "spawn(0, -1) = 1; delete(1) = true\n"
                + "delete(1) = false");
        sentences.hold("3", "or t is 0", "delete(0) = false; state(0) = 0; spawn(0, 0) = 1; delete(0) = false; state(0) = 0");
    }

    private static void load() {
        sentences.hold("4", "Register k of running t becomes v: true",
            "load(0, 0, 5) = true; load(0, 3, 6) = true\n" + Texts.registers(0, 5, 0, 0, 6, 0),
            "spawn(0, -1) = 1; load(1, 1, MIN) = true; load(1, 2, MAX) = true; register(1, 1) = MIN; register(1, 2) = MAX\n"
                + "register(0, 1) = 0; register(0, 2) = 0; load(1, 1, 0) = true; register(1, 1) = 0");
        sentences.hold("4", "refused with false, also if k is not 0 .. 3",
            each("load(0, T, 9) = false", "-1", "4", "5", "MIN", "MAX") + Texts.registers(0, 0, 0, 0, 0, 0));
        sentences.hold("4", "refused with false", Texts.ALL_STATES
            + each("load(T, 1, 9) = false; register(T, 1) = 0", "-1", "1", "2", "3", "4", "5", "6", "7", "8", "MIN", "MAX"));
    }

    private static void offer() {
        sentences.hold("5", "The offer of running t becomes page p of its space with a level, as a grant or not",
            Texts.SPACES + Texts.hand(0, 0, 1, 0, 1, false) + Texts.hand(0, 15, 1, 1, 2, false) + Texts.hand(0, 7, 1, 2, 2, true)
                + Texts.page(1, 0, 1001, 0) + Texts.page(1, 1, 1152, 0) + Texts.page(1, 2, 72, 0) + Texts.empty(0, 7),
            Texts.SPACES + "offer(0, 3, 2, true) = true\n" + Texts.hand(0, 4, 1, 0, 1, false) + Texts.page(1, 0, 1041, 0)
                + Texts.page(0, 3, 32, 0) + Texts.page(0, 4, 42, 1),
            Texts.SPACES + Texts.map(0, 3, 1, 5) + Texts.map(1, 5, 2, 0) + Texts.page(2, 0, 2032, 0));
        sentences.hold("5", "The offer becomes page p of its space (not that of the space with its number)",
            OTHER_NUMBERS + Texts.map(1, 6, 0, 9) + Texts.page(0, 9, 2032, 0) + Texts.page(4, 6, 1032, 1)
                + Texts.page(1, 6, 1042, 0),
            OTHER_NUMBERS + Texts.hand(2, 6, 0, 9, 1, true) + Texts.page(0, 9, 1042, 0) + Texts.page(4, 6, 1032, 0)
                + Texts.empty(1, 6));
        sentences.hold("5", "(whether it holds a mapping or not)",
            Texts.SPACES + "offer(1, 9, 1, false) = true; offer(1, 9, 2, true) = true; window(2, 0) = true; send(1, 2, -1) = 1\n"
                + "spawn(1, -1) = 6\n" + Texts.map(0, 4, 6, 9) + "receive(2, 1, 0) = 0\n" + Texts.page(2, 0, 1042, 0)
                + Texts.empty(1, 9));
        sentences.hold("5", "with p = -1 it has none (level and grant are then not looked at)",
            each("spawn(1, -1) = 1; window(1, 0) = true; offer(0, 5, 2, true) = true; offer(0, -1, T, true) = true\n"
                + "receive(1, 0, -1) = 1; send(0, 1, 0) = 0; mapping(1, 0) = -1; mapping(0, 5) = 52; delete(1) = true",
                "0", "1", "2", "3", "-1", "MIN", "MAX"));
        String refusedOffer = "spawn(1, -1) = 1; window(1, 0) = true; offer(0, 3, 1, false) = true\n";
        String offerIsAsBefore = "receive(1, 0, -1) = 1; send(0, 1, 0) = 0\n" + Texts.page(1, 0, 1031, 0);
        sentences.hold("5", "refused with false, also if p is not -1 .. 15",
            refusedOffer + each("offer(0, T, 2, true) = false", "-2", "16", "MIN", "MAX") + offerIsAsBefore);
        sentences.hold("5", "or p is not -1 and level is not 1 or 2",
            refusedOffer + each("offer(0, 4, T, true) = false; offer(0, 0, T, true) = false; offer(0, 15, T, true) = false",
                "0", "3", "-1", "MIN", "MAX") + offerIsAsBefore);
        sentences.hold("5", "refused with false", Texts.ALL_STATES
            + each("offer(T, 1, 2, false) = false\n"
            + "offer(T, -1, 2, false) = false", "-1", "1", "2", "3", "4", "5", "6", "7", "8"));
    }

    private static void window() {
        sentences.hold("6", "The window of running t becomes page p of its space",
            Texts.SPACES + Texts.map(0, 3, 1, 0) + Texts.map(0, 3, 1, 15) + Texts.map(0, 3, 5, 7) + Texts.page(1, 0, 1032, 0)
                + Texts.page(1, 15, 1032, 0) + Texts.page(5, 7, 1032, 0),
            Texts.SPACES + "window(1, 4) = true\n" + Texts.map(0, 3, 1, 5) + Texts.empty(1, 4) + Texts.page(1, 5, 1032, 0));
        sentences.hold("6", "The window becomes page p of its space (not that of the space with its number)",
            OTHER_NUMBERS + Texts.page(4, 6, 1032, 0) + Texts.page(1, 6, 1042, 0) + Texts.empty(2, 6));
        sentences.hold("6", "or none with p = -1: true",
            "spawn(1, -1) = 1; window(1, 4) = true; window(1, -1) = true; offer(0, 3, 2, false) = true; receive(1, 0, -1) = 1\n"
                + "send(0, 1, 0) = 0; mapping(1, 4) = -1; heirs(0, 3) = 0");
        sentences.hold("6", "refused with false, also if p is not -1 .. 15",
            "spawn(1, -1) = 1; window(1, 4) = true\n" + each("window(1, T) = false", "-2", "16", "MIN", "MAX")
                + "offer(0, 3, 2, false) = true; receive(1, 0, -1) = 1; send(0, 1, 0) = 0; mapping(1, 4) = 1032");
        sentences.hold("6", "refused with false", Texts.ALL_STATES
            + each("window(T, 1) = false; window(T, -1) = false", "-1", "1", "2", "3", "4", "5", "6", "7", "8"));
        sentences.hold("6", "The window becomes page p (it stays with a message)",
            Texts.SPACES + Texts.map(0, 3, 1, 4) + "receive(1, 0, -1) = 1; offer(0, 5, 1, false) = true; send(0, 1, 0) = 0\n"
                + "mapping(1, 4) = 1051");
    }

    private static void send() {
        String two = "spawn(0, -1) = 1; spawn(0, -1) = 2\n";
        String nothing = Texts.at(0, 0, 0) + Texts.at(1, 2, 0) + "register(1, 4) = 0";
        sentences.hold("7", "Refused with -1, also if to is t", two + "receive(1, -1, -1) = 1; send(0, 0, -1) = -1\n"
            + "send(0, 0, 0) = -1\n" + nothing);
        sentences.hold("7", "there is no thread to",
            two + "receive(1, -1, -1) = 1\n" + each("send(0, T, -1) = -1", "-1", "3", "7", "8", "MIN", "MAX") + nothing,
            two + "receive(1, -1, -1) = 1; delete(2) = true; send(0, 2, 0) = -1\n" + nothing);
        sentences.hold("7", "or limit is not -1 .. 100",
            two + "receive(1, -1, -1) = 1\n" + each("send(0, 1, T) = -1; send(0, 2, T) = -1", NO_LIMITS) + nothing,
            two + "send(0, 1, 100) = 1; send(1, 0, -1) = 1; send(2, 0, 1) = 1; state(0) = 1; state(1) = 1; state(2) = 1");
        sentences.hold("7", "If that thread is RECEIVING from t or from any, the message goes, and the answer is 0.",
            two + each("receive(0, 1, 0) = 2; receive(1, 0, -1) = 1; send(0, 1, T) = 0\n" + Texts.at(0, 0, 0)
                + Texts.at(1, 0, 0), "0", "-1", "1", "100"),
            two + each("receive(1, -1, -1) = 1; send(0, 1, T) = 0\n" + Texts.at(0, 0, 0)
                + Texts.at(1, 0, 0), "0", "-1", "1", "100"),
            two + "receive(1, 2, -1) = 1; send(0, 1, 0) = 2; send(0, 1, -1) = 1; state(1) = 2; state(0) = 1; register(1, 4) = 0");
        sentences.hold("7", "or RESTING for t, the message goes, and the answer is 0",
            "spawn(1, 0) = 1; spawn(0, -1) = 2; access(1, 3, false, 0) = 1; receive(0, 1, 0) = 0; send(2, 1, 0) = 2\n"
                + "send(0, 1, 0) = 0\n" + Texts.at(0, 0, 0) + "state(1) = 4");
        sentences.hold("7", "Else with limit 0 the answer is 2 and t's outcome becomes 1",
            two + "send(0, 1, 0) = 2\n" + Texts.at(0, 0, 1) + "waiting(1) = 0; state(1) = 0",
            Texts.ALL_STATES + "delete(2) = true\n" + each("send(0, T, 0) = 2\n" + Texts.at(0, 0, 1)
                + "waiting(T) = 0", "1", "3", "4", "6"));
        sentences.hold("7", "else t is SENDING with that limit, and the answer is 1",
            two + "send(0, 1, 1) = 1; send(2, 1, 2) = 1; state(0) = 1; outcome(0) = 0; waiting(1) = 2; tick() = 1\n"
                + Texts.at(0, 0, 1) + "state(2) = 1; tick() = 1\n" + Texts.at(2, 0, 1),
            two + "send(0, 1, 100) = 1; send(2, 1, -1) = 1; 99 x tick() = 0; state(0) = 1; tick() = 1; state(0) = 0\n"
                + "200 x tick() = 0; state(2) = 1");
        sentences.hold("7", "Running t sends to a thread. Refused with -1", Texts.ALL_STATES
            + each("send(T, 0, -1) = -1; send(T, 0, 0) = -1", "-1", "1", "2", "3", "4", "5", "6", "7", "8", "MIN", "MAX"));
    }

    private static void call() {
        String two = "spawn(0, -1) = 1; spawn(0, -1) = 2\n";
        String nothing = Texts.at(0, 0, 0) + Texts.at(1, 2, 0) + "register(1, 4) = 0";
        sentences.hold("8", "As send(): refused with -1, also if to is t",
            two + "receive(1, -1, -1) = 1; call(0, 0, -1) = -1; call(0, 0, 0) = -1\n" + nothing);
        sentences.hold("8", "As send(): there is no thread to",
            two + "receive(1, -1, -1) = 1\n" + each("call(0, T, -1) = -1", "-1", "3", "7", "8", "MIN", "MAX") + nothing,
            two + "receive(1, -1, -1) = 1; delete(2) = true; call(0, 2, 0) = -1\n" + nothing);
        sentences.hold("8", "As send(): or limit is not -1 .. 100",
            two + "receive(1, -1, -1) = 1\n" + each("call(0, 1, T) = -1; call(0, 2, T) = -1", NO_LIMITS) + nothing,
            two + "call(0, 1, 100) = 1; call(1, 0, -1) = 1; call(2, 0, 1) = 1; state(0) = 3; state(1) = 3; state(2) = 3");
        sentences.hold("8", "if the message goes, t is RECEIVING from that thread, without a limit, and the answer is 1",
            two + each("receive(1, 0, -1) = 1; call(0, 1, T) = 1; state(0) = 2; state(1) = 0; 110 x tick() = 0\n"
                + "send(2, 0, 0) = 2\n" + "state(0) = 2; send(1, 0, 0) = 0\n" + Texts.at(0, 0, 0), "0", "-1", "1", "100"),
            two + "receive(0, -1, 0) = 2; receive(1, -1, -1) = 1; call(0, 1, 0) = 1; state(0) = 2; outcome(0) = 1\n"
                + "outcome(1) = 0",
            "spawn(1, 0) = 1; access(1, 3, false, 0) = 1; receive(0, 1, 0) = 0; offer(0, 3, 1, false) = true; call(0, 1, 0) = 1\n"
                + "state(0) = 2; state(1) = 0; 110 x tick() = 0; send(1, 0, 0) = 0; state(0) = 0",
            two + "receive(1, 2, -1) = 1; call(0, 1, 0) = 2; call(0, 1, -1) = 1; state(1) = 2; state(0) = 3; register(1, 4) = 0");
        sentences.hold("8", "(what that thread does next in the same call can end this)",
            "spawn(1, 0) = 1; access(1, 3, false, 0) = 1; receive(0, 1, 0) = 0; receive(0, 1, 0) = 2; call(0, 1, 0) = 1\n"
                + Texts.at(0, 0, 0) + "state(1) = 5; register(0, 0) = 3; register(0, 1) = 1; register(0, 4) = 2\n"
                + "sender(0) = 1; waiting(0) = 0");
        sentences.hold("8", "else with limit 0 the answer is 2 and t's outcome becomes 1",
            two + "call(0, 1, 0) = 2\n" + Texts.at(0, 0, 1) + "waiting(1) = 0; state(1) = 0",
            Texts.ALL_STATES + "delete(2) = true\n" + each("call(0, T, 0) = 2\n" + Texts.at(0, 0, 1)
                + "waiting(T) = 0", "1", "3", "4", "6"));
        sentences.hold("8", "else t is CALLING with that limit, and the answer is 1",
            two + "call(0, 1, 1) = 1; call(2, 1, 2) = 1; state(0) = 3; outcome(0) = 0; waiting(1) = 2; tick() = 1\n"
                + Texts.at(0, 0, 1) + "state(2) = 3; tick() = 1\n" + Texts.at(2, 0, 1),
            two + "call(0, 1, 100) = 1; call(2, 1, -1) = 1; 99 x tick() = 0; state(0) = 3; tick() = 1; state(0) = 0\n"
                + "200 x tick() = 0; state(2) = 3");
        sentences.hold("8", "As send(): running t. Refused with -1", Texts.ALL_STATES
            + each("call(T, 0, -1) = -1; call(T, 0, 0) = -1", "-1", "1", "2", "3", "4", "5", "6", "7", "8", "MIN", "MAX"));
    }

    private static void receive() {
        String two = "spawn(0, -1) = 1; spawn(0, -1) = 2\n";
        String nothing = Texts.at(0, 0, 0) + Texts.at(1, 1, 0) + "register(0, 4) = 0; waiting(0) = 1";
        sentences.hold("9", "Refused with -1, also if from is t", two + "send(1, 0, -1) = 1; receive(0, 0, -1) = -1\n"
            + "receive(0, 0, 0) = -1\n" + nothing);
        sentences.hold("9", "or neither -1 nor a thread",
            two + "send(1, 0, -1) = 1\n" + each("receive(0, T, -1) = -1", "-2", "3", "7", "8", "MIN", "MAX") + nothing,
            two + "send(1, 0, -1) = 1; delete(2) = true; receive(0, 2, -1) = -1\n" + nothing);
        sentences.hold("9", "or limit is not -1 .. 100",
            two + "send(1, 0, -1) = 1\n" + each("receive(0, 1, T) = -1; receive(0, -1, T) = -1\n"
                + "receive(0, 2, T) = -1", NO_LIMITS) + nothing,
            two + "receive(0, 1, 100) = 1; receive(1, -1, -1) = 1; receive(2, -1, 1) = 1; state(0) = 2; state(1) = 2\n"
                + "state(2) = 2");
        sentences.hold("9", "Running t receives from a thread, or from any (from = -1)",
            two + "receive(0, 1, -1) = 1; send(2, 0, 0) = 2; send(1, 0, 0) = 0; sender(0) = 1",
            two + "receive(0, -1, -1) = 1; send(2, 0, 0) = 0; sender(0) = 2; receive(0, -1, -1) = 1; send(1, 0, 0) = 0\n"
                + "sender(0) = 1");
        sentences.hold("9", "If there is none, with limit 0 the answer is 2 and t's outcome becomes 1",
            two + "receive(0, -1, 0) = 2\n" + Texts.at(0, 0, 1), two + "send(2, 0, -1) = 1; receive(0, 1, 0) = 2\n"
                + Texts.at(0, 0, 1) + "state(2) = 1",
            two + "send(2, 1, -1) = 1; receive(0, -1, 0) = 2; receive(0, 2, 0) = 2\n" + Texts.at(0, 0, 1) + "state(2) = 1");
        sentences.hold("9", "else t is RECEIVING with that limit, and the answer is 1",
            two + "receive(0, -1, 1) = 1; receive(1, 0, 2) = 1; state(0) = 2; outcome(0) = 0; state(1) = 2; tick() = 1\n"
                + Texts.at(0, 0, 1) + "state(1) = 2; tick() = 1\n" + Texts.at(1, 0, 1),
            two + "receive(0, 1, 100) = 1; receive(2, -1, -1) = 1; 99 x tick() = 0; state(0) = 2; tick() = 1; state(0) = 0\n"
                + "200 x tick() = 0; state(2) = 2",
            two + "send(2, 0, -1) = 1; receive(0, 1, 5) = 1; state(0) = 2; state(2) = 1; waiting(0) = 1");
        sentences.hold("9", "Running t receives. Refused with -1", Texts.ALL_STATES
            + each("receive(T, 0, -1) = -1; receive(T, -1, 0) = -1", "-1", "1", "2", "3", "4", "5", "6", "7", "8", "MIN", "MAX"));
    }

    private static void receiveOrder() {
        String six = "spawn(0, -1) = 1; spawn(0, -1) = 2; spawn(0, -1) = 3; spawn(1, 0) = 4; spawn(1, 0) = 5\n";
        String next = "receive(0, -1, 0) = 0; sender(0) = T";
        sentences.hold("9", "Among the threads SENDING to t, CALLING it or FAULTING on it "
            + "the one that has been in that state for longest sends its message to t, and the answer is 0.",
            six + "send(3, 0, -1) = 1; access(5, 9, true, 0) = 1; call(2, 0, -1) = 1; send(1, 0, 9) = 1\n"
                + "access(4, 8, false, 0) = 1\n"
                + each(next, "3", "5", "2", "1", "4") + "state(3) = 0; state(5) = 5; state(2) = 2; state(1) = 0\n"
                + "state(4) = 5; receive(0, -1, 0) = 2",
            six + "access(4, 9, true, 0) = 1; tick() = 0; call(3, 0, 50) = 1; tick() = 0; send(1, 0, -1) = 1\n"
                + "send(2, 1, -1) = 1\n" + each(next, "4", "3", "1") + "receive(0, -1, 0) = 2; state(2) = 1");
        sentences.hold("9", "the one that has been in that state for longest (a new wait counts anew)",
            six + "send(1, 0, 1) = 1; send(2, 0, -1) = 1; tick() = 1; send(1, 0, -1) = 1\n" + each(next, "2", "1"),
            six + "access(4, 9, true, 0) = 1; send(1, 0, -1) = 1; receive(0, 4, 0) = 0; send(0, 4, 0) = 0; state(4) = 4\n"
                + each(next, "1", "4"),
            six + "send(1, 0, -1) = 1; send(2, 0, -1) = 1; delete(1) = true; spawn(0, -1) = 1; send(1, 0, -1) = 1\n"
                + each(next, "2", "1"),
            six + "send(1, 2, 1) = 1; send(3, 0, -1) = 1; tick() = 1; call(1, 0, -1) = 1\n" + each(next, "3", "1"));
        sentences.hold("9", "(with from not -1: that one alone, if it is one of them)",
            six + "send(1, 0, -1) = 1; call(2, 0, -1) = 1; access(4, 3, false, 0) = 1; receive(0, 4, 0) = 0; sender(0) = 4\n"
                + "receive(0, 2, 0) = 0\n"
                + "sender(0) = 2; state(1) = 1; receive(0, 3, 0) = 2; receive(0, 2, 0) = 2; receive(0, 4, 0) = 2\n"
                + "waiting(0) = 1; sender(0) = 2",
            six + "send(1, 0, -1) = 1; send(2, 3, -1) = 1; receive(0, 2, 0) = 2; receive(0, 2, 7) = 1; state(1) = 1\n"
                + "state(0) = 2");
    }

    private static void access() {
        sentences.hold("10", "An access of running t to page p, writing v if store is true, else reading.",
            "access(0, 0, true, 6) = 0; word(0) = 6; value(0) = 0; access(0, 0, false, 7) = 0; word(0) = 6; value(0) = 6",
            "access(0, 15, true, 6) = 0; word(15) = 6; value(0) = 0; access(0, 15, false, 7) = 0; word(15) = 6; value(0) = 6");
        sentences.hold("10", "to page p (of its space, not of the space with its number)",
            OTHER_NUMBERS + "access(0, 3, true, 8) = 0; access(0, 4, true, 9) = 0; access(1, 6, false, 0) = 0; value(1) = 8\n"
                + "access(2, 6, true, 7) = 0; word(4) = 7; word(3) = 8");
        sentences.hold("10", "Refused with -1, also if p is not 0 .. 15.",
            "spawn(1, 0) = 1; receive(0, 1, 0) = 2\n" + each("access(0, T, true, 9) = -1\n"
                + "access(1, T, false, 9) = -1", "-1", "16", "MIN", "MAX")
                + Texts.at(0, 0, 1) + Texts.at(1, 0, 0) + "word(0) = 0; word(15) = 0; waiting(0) = 0");
        sentences.hold("10", "An access of running t. Refused with -1", Texts.ALL_STATES
            + each("access(T, 0, true, 9) = -1\n"
            + "access(T, 0, false, 9) = -1", "-1", "1", "2", "3", "4", "5", "6", "7", "8", "MIN", "MAX") + "word(0) = 0");
        sentences.hold("10", "Answers 0 if it is done at once", "access(0, 3, true, 9) = 0; access(0, 3, false, 9) = 0\n"
            + "state(0) = 0");
        sentences.hold("10", "2 if t is STUCK now", "spawn(1, -1) = 1; access(1, 3, false, 9) = 2; unmap(0, 3, 2, true) = 1\n"
            + "access(0, 3, true, 9) = 2; state(0) = 6");
        sentences.hold("10", "else 1", "spawn(1, 0) = 1; spawn(1, 0) = 2; access(1, 3, false, 9) = 1; state(1) = 4\n"
            + "receive(0, 1, 0) = 0; receive(0, -1, -1) = 1\n" + "access(2, 3, true, 9) = 1; state(2) = 5; state(0) = 0");
    }

    private static void unmapRemoves() {
        String tree = Texts.SPACES + Texts.map(0, 3, 1, 3) + Texts.map(1, 3, 2, 3) + Texts.hand(1, 3, 2, 4, 1, false)
            + Texts.map(2, 3, 0, 0) + Texts.map(0, 3, 4, 4);
        sentences.hold("11", "With level 1 all descendants of its mapping are removed",
            tree + "unmap(1, 3, 1, false) = 3\n" + Texts.page(1, 3, 1032, 0) + Texts.empty(2, 3) + Texts.empty(2, 4)
                + Texts.empty(0, 0) + Texts.page(4, 4, 1032, 0) + Texts.page(0, 3, 32, 2) + "unmap(1, 3, 1, false) = 0",
            tree + "unmap(0, 3, 1, false) = 5\n" + Texts.page(0, 3, 32, 0) + Texts.empty(1, 3) + Texts.empty(4, 4),
            Texts.chain(12) + "unmap(0, 3, 1, false) = 12\n" + Texts.page(0, 3, 32, 0) + Texts.empty(2, 5));
        sentences.hold("11", "and with self it also",
            tree + "unmap(1, 3, 1, true) = 4\n" + Texts.empty(1, 3) + Texts.empty(2, 3) + Texts.empty(0, 0)
                + Texts.page(0, 3, 32, 1),
            tree + "unmap(2, 4, 1, true) = 1\n" + Texts.empty(2, 4) + Texts.page(1, 3, 1032, 2),
            "unmap(0, 3, 1, true) = 1\n" + Texts.empty(0, 3) + Texts.page(0, 2, 22, 0) + Texts.page(0, 4, 42, 0));
        sentences.hold("11", "Running t takes back what came of page p of its space.",
            tree + "unmap(2, 3, 1, false) = 1\n" + Texts.empty(0, 0) + Texts.page(1, 3, 1032, 2)
                + "unmap(0, 15, 1, true) = 1; mapping(0, 15) = -1; mapping(0, 3) = 32");
        sentences.hold("11", "what came of page p of its space (not that of the space with its number)",
            OTHER_NUMBERS + "unmap(1, 6, 1, true) = 1\n" + Texts.empty(4, 6) + Texts.page(1, 6, 1042, 0),
            OTHER_NUMBERS + "unmap(2, 6, 2, true) = 1\n" + Texts.page(1, 6, 1041, 0) + Texts.page(4, 6, 1032, 0));
        sentences.hold("11", "0 if the page holds none",
            tree + "unmap(1, 4, 1, true) = 0; unmap(1, 4, 2, true) = 0; unmap(1, 4, 1, false) = 0; unmap(1, 4, 2, false) = 0\n"
                + Texts.page(0, 3, 32, 5),
            tree + "unmap(1, 3, 1, true) = 4; unmap(1, 3, 1, true) = 0; unmap(1, 3, 2, true) = 0; unmap(2, 3, 1, true) = 0");
        sentences.hold("11", "Answers how many mappings were removed",
            tree + "unmap(2, 3, 1, false) = 1; unmap(1, 3, 1, false) = 2; unmap(0, 3, 1, true) = 3; unmap(0, 3, 1, true) = 0",
            "unmap(0, 3, 1, false) = 0; unmap(0, 3, 1, true) = 1", Texts.chain(12) + "unmap(0, 3, 1, true) = 13");
    }

    private static void unmapLowers() {
        String tree = Texts.SPACES + Texts.map(0, 3, 1, 3) + Texts.map(1, 3, 2, 3) + Texts.hand(1, 3, 2, 4, 1, false)
            + Texts.map(2, 3, 0, 0) + Texts.map(0, 3, 4, 4);
        sentences.hold("11", "with level 2 those descendants that have the level 2 get the level 1",
            tree + "unmap(1, 3, 2, false) = 2\n" + Texts.page(1, 3, 1032, 3) + Texts.page(2, 3, 2031, 1)
                + Texts.page(2, 4, 2031, 0) + Texts.page(0, 0, 3031, 0) + Texts.page(4, 4, 1032, 0) + Texts.page(0, 3, 32, 5),
            Texts.chain(12) + "unmap(0, 3, 2, false) = 12; mapping(0, 3) = 32; mapping(1, 0) = 1031; mapping(2, 5) = 12031\n"
                + "unmap(0, 3, 2, false) = 0");
        sentences.hold("11", "(and with self the mapping)",
            tree + "unmap(1, 3, 2, true) = 3\n" + Texts.page(1, 3, 1031, 3) + Texts.page(2, 3, 2031, 1) + Texts.page(0, 3, 32, 5),
            "unmap(0, 15, 2, true) = 1; mapping(0, 15) = 151; access(0, 15, false, 0) = 0; access(0, 15, true, 0) = 2");
        sentences.hold("11", "or got another level",
            tree + "unmap(2, 4, 2, true) = 0; unmap(1, 3, 2, true) = 3; unmap(1, 3, 2, true) = 0; unmap(0, 3, 2, true) = 2\n"
                + "unmap(0, 3, 2, true) = 0\n" + Texts.page(2, 4, 2031, 0) + Texts.page(0, 3, 31, 5));
        sentences.hold("11", "with level 2 no mapping is lost, and a lowered one is handed on with level 1",
            Texts.SPACES + "unmap(0, 3, 2, true) = 1\n" + Texts.map(0, 3, 1, 3) + Texts.page(1, 3, 1031, 0)
                + Texts.page(0, 3, 31, 1));
    }

    private static void unmapRefuses() {
        String child = Texts.SPACES + Texts.map(0, 3, 1, 3);
        String asBefore = Texts.page(0, 3, 32, 1) + Texts.page(1, 3, 1032, 0) + Texts.page(0, 0, 2, 0)
            + Texts.page(0, 15, 152, 0);
        sentences.hold("11", "refused with -1, also if p is not 0 .. 15",
            child + each("unmap(0, T, 1, true) = -1; unmap(0, T, 2, true) = -1\n"
                + "unmap(1, T, 1, true) = -1", "-1", "16", "MIN", "MAX") + asBefore);
        sentences.hold("11", "or level is not 1 or 2",
            child + each("unmap(0, 3, T, true) = -1; unmap(0, 3, T, false) = -1\n"
                + "unmap(1, 9, T, false) = -1", "0", "3", "-1", "MIN", "MAX") + asBefore);
        sentences.hold("11", "Running t takes back. Refused with -1", Texts.ALL_STATES
            + each("unmap(T, 0, 1, true) = -1\n"
            + "unmap(T, 0, 2, true) = -1", "-1", "1", "2", "3", "4", "5", "6", "7", "8", "MIN", "MAX") + "mapping(0, 0) = 2");
    }

    private static void tick() {
        String four = "spawn(0, -1) = 1; spawn(0, -1) = 2; spawn(0, -1) = 3; spawn(1, 0) = 4; spawn(1, 0) = 5\n";
        sentences.hold("12", "NOW becomes 1 more", "spawn(0, -1) = 1; tick() = 0; receive(1, 0, 2) = 1; tick() = 0\n"
            + "state(1) = 2; tick() = 1; state(1) = 0");
        sentences.hold("12", "every thread SENDING, CALLING or RECEIVING with a limit whose time is over "
            + "is RUNNING with the outcome 1",
            four + "send(1, 0, 2) = 1; call(2, 0, 2) = 1; receive(3, 0, 2) = 1; receive(5, -1, 2) = 1; tick() = 0\n"
                + "waiting(0) = 2; tick() = 4\n"
                + Texts.at(1, 0, 1) + Texts.at(2, 0, 1) + Texts.at(3, 0, 1) + Texts.at(5, 0, 1) + "waiting(0) = 0\n"
                + "receive(0, -1, 0) = 2");
        sentences.hold("12", "with a limit (FAULTING, RESTING and STUCK have none)",
            four + "spawn(1, -1) = 6; receive(4, 0, 2) = 1; receive(5, 0, 2) = 1; receive(6, 0, 2) = 1; send(0, 4, 0) = 0\n"
                + "send(0, 5, 0) = 0; send(0, 6, 0) = 0\n"
                + "access(4, 0, false, 0) = 1; receive(0, 4, 0) = 0; access(5, 0, false, 0) = 1; access(6, 0, false, 0) = 2\n"
                + "110 x tick() = 0\n" + "state(4) = 5; state(5) = 4; state(6) = 6");
        sentences.hold("12", "whose time is over (a limit ends with its wait)",
            "spawn(0, -1) = 1; send(1, 0, 2) = 1; receive(0, 1, 0) = 0; send(1, 0, -1) = 1; 5 x tick() = 0; state(1) = 1",
            "spawn(0, -1) = 1; call(1, 0, 2) = 1; receive(0, 1, 0) = 0; 5 x tick() = 0; state(1) = 2",
            "spawn(0, -1) = 1; receive(1, 0, 2) = 1; send(0, 1, 0) = 0; receive(1, 0, -1) = 1; 5 x tick() = 0; state(1) = 2",
            "spawn(0, -1) = 1; send(0, 1, 2) = 1; delete(1) = true; 5 x tick() = 0\n" + Texts.at(0, 0, 2),
            "spawn(0, -1) = 1; send(1, 0, 2) = 1; delete(1) = true; spawn(0, -1) = 1; 5 x tick() = 0\n" + Texts.at(1, 0, 0));
        sentences.hold("12", "Answers how many these are.",
            "tick() = 0\n" + four + "send(1, 0, 1) = 1; call(2, 0, 2) = 1; receive(3, 0, 2) = 1; send(4, 0, -1) = 1\n"
                + "tick() = 1; tick() = 2; tick() = 0");
    }

    private static void state() {
        sentences.hold("13", "The state of thread t, 0 .. 6", Texts.ALL_STATES + "state(0) = 0; state(1) = 1; state(2) = 2\n"
            + "state(3) = 3; state(4) = 4; state(5) = 5; state(6) = 6");
        sentences.hold("13", "-1 if there is none", Texts.ALL_STATES + each("state(T) = -1", "-1", "7", "8", "MIN", "MAX")
            + "delete(3) = true; state(3) = -1");
    }

    private static void register() {
        String counted = "spawn(0, -1) = 1; load(0, 0, 3) = true; load(0, 1, 4) = true; load(0, 2, 5) = true\n"
            + "load(0, 3, 6) = true; send(0, 1, -1) = 1; receive(1, 0, 0) = 0\n";
        sentences.hold("14", "Register k of thread t for k = 0 .. 3; its count of messages taken for k = 4",
            counted + Texts.registers(1, 3, 4, 5, 6, 1) + Texts.registers(0, 3, 4, 5, 6, 0),
            counted + "send(0, 1, -1) = 1; register(0, 0) = 3; receive(1, 0, 0) = 0; register(1, 4) = 2\n"
                + "receive(1, -1, -1) = 1; register(1, 0) = 3; register(1, 4) = 2");
        sentences.hold("14", "0 if there is no such thread",
            counted + each("register(T, 0) = 0; register(T, 4) = 0", "-1", "2", "7", "8", "MIN", "MAX") + "delete(1) = true\n"
                + "register(1, 0) = 0; register(1, 4) = 0");
        sentences.hold("14", "or k is not 0 .. 4", counted + each("register(1, T) = 0\n"
            + "register(0, T) = 0", "-1", "5", "MIN", "MAX"));
    }

    private static void outcome() {
        sentences.hold("15", "0 done", "spawn(0, -1) = 1; receive(0, 1, 0) = 2; send(1, 0, -1) = 1; receive(0, 1, 0) = 0\n"
            + "outcome(0) = 0; outcome(1) = 0");
        sentences.hold("15", "1 its limit was over",
            "spawn(0, -1) = 1; receive(0, 1, 0) = 2; outcome(0) = 1; access(0, 0, false, 0) = 0; receive(0, 1, 1) = 1\n"
                + "outcome(0) = 0; tick() = 1; outcome(0) = 1");
        sentences.hold("15", "2 the other thread was deleted", "spawn(0, -1) = 1; send(0, 1, -1) = 1; delete(1) = true\n"
            + "outcome(0) = 2");
        sentences.hold("15", "-1 if there is no thread t", each("outcome(T) = -1", "-1", "1", "7", "8", "MIN", "MAX")
            + "spawn(0, -1) = 1; delete(1) = true; outcome(1) = -1");
        sentences.hold("15", "It is that of the latest send, call, receive or access of t that has ended",
            "spawn(0, -1) = 1; send(0, 1, 0) = 2; outcome(0) = 1; access(0, 0, false, 0) = 0; outcome(0) = 0\n"
                + "call(0, 1, 0) = 2; outcome(0) = 1\n"
                + "access(0, 0, true, 0) = 0; outcome(0) = 0; receive(0, 1, 0) = 2; outcome(0) = 1; load(0, 0, 1) = true\n"
                + "offer(0, 0, 1, false) = true\n"
                + "window(0, 0) = true; unmap(0, 3, 1, false) = 0; tick() = 0; outcome(0) = 1; receive(0, 1, -1) = 1\n"
                + "outcome(0) = 1; delete(1) = true; outcome(0) = 2",
            "spawn(1, 0) = 1; send(1, 0, 0) = 2; access(1, 0, false, 0) = 1; outcome(1) = 1; receive(0, 1, 0) = 0\n"
                + "outcome(1) = 1; outcome(0) = 0",
            "spawn(1, -1) = 1; send(1, 0, 0) = 2; access(1, 0, false, 0) = 2; outcome(1) = 1",
            "spawn(0, -1) = 1; receive(0, 1, 0) = 2; receive(1, 0, -1) = 1; call(0, 1, 0) = 1; outcome(0) = 1\n"
                + "send(1, 0, 0) = 0; outcome(0) = 0");
        sentences.hold("15", "a refused one not counting",
            "spawn(0, -1) = 1; receive(0, 1, 0) = 2; send(0, 0, 0) = -1; call(0, 1, 101) = -1; receive(0, 7, 0) = -1\n"
                + "access(0, 16, false, 0) = -1; outcome(0) = 1");
    }

    private static void valueAndSender() {
        sentences.hold("16", "The value that thread t read last",
            "access(0, 3, true, 5) = 0; value(0) = 0; access(0, 3, false, 0) = 0; value(0) = 5; access(0, 3, true, 6) = 0\n"
                + "value(0) = 5; access(0, 4, false, 0) = 0; value(0) = 0",
            "spawn(1, 0) = 1; access(0, 3, true, 5) = 0; access(1, 0, false, 0) = 1; value(1) = 0; receive(0, 1, 0) = 0\n"
                + "offer(0, 3, 1, false) = true; send(0, 1, 0) = 0; value(1) = 5; value(0) = 0");
        sentences.hold("16", "0 if there is no thread t",
            each("value(T) = 0", "-1", "1", "7", "8", "MIN", "MAX") + "spawn(0, -1) = 1; access(1, 3, true, 5) = 0\n"
                + "access(1, 3, false, 0) = 0; value(1) = 5; delete(1) = true; value(1) = 0");
        sentences.hold("17", "the number of the thread whose message it took last",
            "spawn(0, -1) = 1; spawn(1, 0) = 2; send(1, 0, -1) = 1; receive(0, -1, 0) = 0; sender(0) = 1\n"
                + "access(2, 0, false, 0) = 1; sender(0) = 1; receive(0, -1, 0) = 0; sender(0) = 2",
            "spawn(0, -1) = 1; send(1, 0, -1) = 1; receive(0, -1, 0) = 0; delete(1) = true; sender(0) = 1");
        sentences.hold("17", "-1 if it took none", "spawn(0, -1) = 1; receive(1, 0, -1) = 1; sender(1) = -1\n"
            + "send(0, 1, 0) = 0; sender(0) = -1; sender(1) = 0");
        sentences.hold("17", "-1 if there is no thread t",
            each("sender(T) = -1", "-1", "1", "7", "8", "MIN", "MAX") + "spawn(0, -1) = 1; receive(1, 0, -1) = 1\n"
                + "send(0, 1, 0) = 0; sender(1) = 0; delete(1) = true; sender(1) = -1");
    }

    private static void mappingAndHeirs() {
        String none = each("mapping(T, 0) = -1; heirs(T, 0) = -1", "-1", "6", "MIN", "MAX") + each("mapping(0, T) = -1\n"
            + "heirs(0, T) = -1", "-1", "16", "MIN", "MAX")
            + "mapping(1, -1) = -1; heirs(1, -1) = -1; mapping(-1, 16) = -1; heirs(-1, 16) = -1; mapping(4, 16) = -1\n"
            + "heirs(4, 16) = -1\n";
        sentences.hold("18", "What page p of a space holds: 1000 * depth + 10 * frame + level",
            Texts.chain(12) + "mapping(0, 0) = 2; mapping(0, 15) = 152; mapping(0, 3) = 32; mapping(1, 0) = 1032\n"
                + "mapping(2, 5) = 12032",
            Texts.SPACES + Texts.hand(0, 15, 5, 0, 1, false) + Texts.hand(5, 0, 4, 15, 2, false) + "mapping(5, 0) = 1151\n"
                + "mapping(4, 15) = 2151");
        sentences.hold("18", "-1 if it holds nothing", "mapping(1, 0) = -1; mapping(5, 15) = -1; unmap(0, 0, 1, true) = 1\n"
            + "mapping(0, 0) = -1");
        sentences.hold("18", "or there is no such page or space", none, Texts.SPACES + Texts.map(0, 3, 1, 0)
            + Texts.map(0, 3, 5, 15) + none);
        sentences.hold("19", "How many descendants the mapping has that page p of a space holds", Texts.chain(12)
            + "heirs(0, 3) = 12; heirs(1, 0) = 11; heirs(2, 5) = 0; heirs(0, 4) = 0");
        sentences.hold("19", "-1 if it holds nothing", "heirs(1, 0) = -1; heirs(5, 15) = -1; unmap(0, 0, 1, true) = 1\n"
            + "heirs(0, 0) = -1");
        sentences.hold("19", "or there is no such page or space", none, Texts.SPACES + Texts.map(0, 3, 1, 0)
            + Texts.map(0, 3, 5, 15) + none);
    }

    private static void waitingAndWord() {
        sentences.hold("20", "How many threads are SENDING to thread t, CALLING it or FAULTING on it",
            Texts.ALL_STATES + "waiting(0) = 3; waiting(1) = 0; waiting(5) = 0; receive(0, 4, 0) = 0; waiting(0) = 2\n"
                + "receive(0, 3, 0) = 0; waiting(0) = 1; receive(0, 1, 0) = 0; waiting(0) = 0",
            "spawn(0, -1) = 1; spawn(0, -1) = 2; spawn(0, -1) = 3; spawn(0, -1) = 4; spawn(0, -1) = 5; spawn(0, -1) = 6\n"
                + "spawn(0, -1) = 7\n"
                + each("send(T, 0, 1) = 1", "1", "2", "3", "4", "5", "6", "7") + "waiting(0) = 7; tick() = 7; waiting(0) = 0",
            "spawn(0, -1) = 1; spawn(0, -1) = 2; receive(1, 0, -1) = 1; waiting(0) = 0; send(2, 1, -1) = 1; waiting(1) = 1\n"
                + "delete(2) = true; waiting(1) = 0");
        sentences.hold("20", "-1 if there is no thread t", each("waiting(T) = -1", "-1", "1", "7", "8", "MIN", "MAX")
            + "spawn(0, -1) = 1; waiting(1) = 0; delete(1) = true; waiting(1) = -1");
        sentences.hold("21", "The word of a frame", "access(0, 0, true, 3) = 0; access(0, 15, true, 4) = 0; word(0) = 3\n"
            + "word(15) = 4; word(7) = 0; unmap(0, 15, 1, true) = 1; word(15) = 4",
            Texts.SPACES + Texts.hand(0, 3, 1, 8, 2, true) + "access(1, 8, true, 7) = 0; word(3) = 7; word(8) = 0");
        sentences.hold("21", "0 if it is not 0 .. 15", "access(0, 0, true, 3) = 0; access(0, 15, true, 4) = 0\n"
            + each("word(T) = 0", "-1", "16", "MIN", "MAX"));
    }
}
