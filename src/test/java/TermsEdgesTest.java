/** The document's "Terms", sentence by sentence with its boundary cases, each with runs of its own. */
public final class TermsEdgesTest {
    private static final Sentences sentences = new Sentences("TermsEdgesTest");

    public static void main(String[] args) {
        callsOfAnObject();
        threads();
        threadsAtFirst();
        states();
        pages();
        mappings();
        messageOrder();
        messageStepOne();
        messageOfOthers();
        messageStepTwo();
        messageStepThree();
        messageStepFour();
        handingOnFromSpaceToSpace();
        handingOnNothing();
        handingOnRemoves();
        handingOnGrants();
        handingOnDerives();
        accessWanted();
        accessDone();
        accessNotDone();
        pagersOfPagers();
        time();
        threadsEnd();
        firstRefusal();
        sentences.end();
    }

    private static void callsOfAnObject() {
        sentences.hold("What it is", "An object is used for at most 512 calls after it has been made",
            "spawn(0, -1) = 1; receive(1, 0, -1) = 1; 509 x tick() = 0; send(0, 1, 0) = 0",
            "spawn(0, -1) = 1\n" + "receive(1, 0, -1) = 1; send(0, 1, 0) = 0\n".repeat(255) + "register(1, 4) = 255",
            "spawn(1, 0) = 1\n" + "access(1, 0, false, 0) = 1; delete(1) = true; spawn(1, 0) = 1\n".repeat(170) + "state(1) = 0",
            "spawn(1, 0) = 1; access(1, 9, true, 6) = 1\n" + "receive(0, 1, 0) = 0; send(0, 1, 0) = 0\n".repeat(254)
                + "receive(0, 1, 0) = 0\n" + "register(0, 4) = 255");
    }

    private static void threads() {
        sentences.hold("Threads", "THREADS have numbers 0 .. 7.", """
            state(-1) = -1
            spawn(0, -1) = 1; spawn(0, -1) = 2; spawn(0, -1) = 3; spawn(0, -1) = 4
            spawn(0, -1) = 5; spawn(0, -1) = 6; spawn(0, -1) = 7; spawn(0, -1) = -1
            state(7) = 0; state(8) = -1
            load(7, 3, 9) = true; register(7, 3) = 9; load(8, 3, 9) = false; register(8, 3) = 0
            """);
        sentences.hold("Threads", "Thread 0 is always there", """
            state(0) = 0; delete(0) = false; state(0) = 0
            unmap(0, 3, 1, true) = 1; access(0, 3, false, 0) = 2; delete(0) = false; state(0) = 6
            """);
        sentences.hold("Threads", "Thread 0 is in space 0", """
            access(0, 0, true, 4) = 0; access(0, 15, true, 5) = 0; word(0) = 4; word(15) = 5
            unmap(0, 15, 1, true) = 1; mapping(0, 15) = -1
            """);
        sentences.hold("Threads", "Thread 0 is without a pager", """
            spawn(0, -1) = 1; unmap(0, 3, 1, true) = 1; access(0, 3, false, 0) = 2; state(0) = 6; waiting(1) = 0
            """);
        StringBuilder eachSpace = new StringBuilder();
        for (int space = 0; space < 6; space++) {
            int t = space + 1;
            eachSpace.append(Texts.due(t, "spawn", space, -1)).append(Texts.map(0, t, t, 9));
            eachSpace.append(Texts.page(space, 9, 1002 + 10 * t, 0));
        }
        sentences.hold("Threads", "Each other one is made in a SPACE 0 .. 5", eachSpace.toString());
        sentences.hold("Threads", "and may have a PAGER, another thread", """
            spawn(1, 1) = -1; spawn(1, 0) = 1; access(1, 0, false, 0) = 1; waiting(0) = 1; waiting(1) = 0
            """, """
            spawn(1, -1) = 1; access(1, 0, false, 0) = 2; waiting(0) = 0
            """, """
            spawn(1, -1) = 1; spawn(1, 1) = 2; access(2, 0, false, 0) = 1; waiting(1) = 1; waiting(0) = 0
            """);
    }

    private static void threadsAtFirst() {
        String mark = """
            spawn(1, 0) = 1; window(1, 3) = true; receive(1, 0, -1) = 1; access(0, 2, true, 77) = 0
            load(0, 0, 4) = true; load(0, 1, 5) = true; load(0, 2, 6) = true; load(0, 3, 7) = true
            offer(0, 2, 2, false) = true; send(0, 1, 0) = 0; access(1, 3, false, 0) = 0; offer(1, 3, 2, false) = true
            send(1, 0, 0) = 2; value(1) = 77; outcome(1) = 1; sender(1) = 0; register(1, 4) = 1; register(1, 3) = 7
            """;
        String again = "delete(1) = true; spawn(1, -1) = 1\n";
        sentences.hold("Threads", "A thread has four REGISTERS 0 .. 3 (ints, 0 at first)",
            Texts.registers(0, 0, 0, 0, 0),
            mark + again + Texts.registers(1, 0, 0, 0, 0), """
            load(0, 0, MIN) = true; load(0, 1, MAX) = true; load(0, 2, -1) = true; load(0, 3, 1) = true
            register(0, 0) = MIN; register(0, 1) = MAX; register(0, 2) = -1; register(0, 3) = 1
            """);
        sentences.hold("Threads", "an OFFER (none at first)", """
            spawn(1, -1) = 1; window(1, 0) = true; receive(1, 0, -1) = 1; send(0, 1, 0) = 0; mapping(1, 0) = -1
            """, """
            spawn(0, -1) = 1; spawn(1, -1) = 2; window(2, 0) = true; receive(2, 1, -1) = 1; send(1, 2, 0) = 0
            mapping(2, 0) = -1
            """, mark + again + """
            window(0, 9) = true; receive(0, 1, -1) = 1; send(1, 0, 0) = 0; mapping(0, 9) = 92
            """, mark + """
            delete(1) = true; spawn(0, -1) = 1; window(0, 9) = true; receive(0, 1, -1) = 1; send(1, 0, 0) = 0; mapping(0, 9) = 92
            """, """
            spawn(0, -1) = 1; window(1, 9) = true; receive(1, 0, -1) = 1; send(0, 1, 0) = 0; mapping(0, 9) = 92
            """);
        sentences.hold("Threads", "a WINDOW (none at first)", """
            spawn(0, -1) = 1; offer(1, 5, 2, false) = true; receive(0, 1, -1) = 1; send(1, 0, 0) = 0
            heirs(0, 5) = 0; mapping(0, 0) = 2; mapping(0, 15) = 152
            """, """
            spawn(1, -1) = 1; offer(0, 5, 2, false) = true; receive(1, 0, -1) = 1; send(0, 1, 0) = 0; heirs(0, 5) = 0
            """, mark + again + """
            offer(0, 4, 2, false) = true; receive(1, 0, -1) = 1; send(0, 1, 0) = 0; mapping(1, 3) = 1022; heirs(0, 4) = 0
            """);
        sentences.hold("Threads", "an OUTCOME (0 at first)",
            "outcome(0) = 0; spawn(3, -1) = 1; outcome(1) = 0", mark + again + "outcome(1) = 0");
        sentences.hold("Threads", "a SENDER (-1 at first)",
            "sender(0) = -1; spawn(3, -1) = 1; sender(1) = -1", mark + again + "sender(1) = -1");
        sentences.hold("Threads", "a VALUE (0 at first)",
            "value(0) = 0; spawn(3, -1) = 1; value(1) = 0", mark + again + "value(1) = 0");
        sentences.hold("Threads", "a count of messages taken (0 at first)",
            "register(0, 4) = 0; spawn(3, -1) = 1; register(1, 4) = 0", mark + again + "register(1, 4) = 0");
        sentences.hold("Threads", "and a STATE: 0 RUNNING (at first)",
            "state(0) = 0; spawn(3, -1) = 1; state(1) = 0", """
            spawn(1, -1) = 1; receive(1, -1, -1) = 1; delete(1) = true; spawn(1, -1) = 1; state(1) = 0
            access(1, 0, false, 0) = 2; delete(1) = true; spawn(1, -1) = 1; state(1) = 0
            """);
    }

    private static void states() {
        sentences.hold("Threads", "1 SENDING to a thread",
            "spawn(0, -1) = 1; send(1, 0, -1) = 1; state(1) = 1; state(0) = 0; waiting(0) = 1");
        sentences.hold("Threads", "2 RECEIVING from a thread or from any", """
            spawn(0, -1) = 1; spawn(0, -1) = 2; receive(1, 0, -1) = 1; receive(2, -1, -1) = 1; state(1) = 2; state(2) = 2
            """);
        sentences.hold("Threads", "3 CALLING a thread (sending; it will receive then)", """
            spawn(0, -1) = 1; call(1, 0, -1) = 1; state(1) = 3; waiting(0) = 1; receive(0, 1, 0) = 0; state(1) = 2
            """);
        sentences.hold("Threads", "4 FAULTING (sending to its pager)",
            "spawn(1, 0) = 1; access(1, 0, true, 3) = 1; state(1) = 4; waiting(0) = 1");
        sentences.hold("Threads", "5 RESTING (waiting for its pager's answer)", """
            spawn(1, 0) = 1; access(1, 0, true, 3) = 1; receive(0, -1, 0) = 0; state(1) = 5; waiting(0) = 0
            """);
        sentences.hold("Threads", "6 STUCK", """
            spawn(1, -1) = 1; access(1, 0, true, 3) = 2; state(1) = 6; send(0, 1, 0) = 2; 9 x tick() = 0; state(1) = 6
            """);
        String other = "receive(2, -1, 0) = 2; receive(2, 1, 0) = 2; waiting(2) = 0; receive(2, -1, -1) = 1; delete(2) = true\n";
        sentences.hold("Threads", "It is SENDING, CALLING, FAULTING on its TARGET",
            "spawn(1, -1) = 1; spawn(0, -1) = 2; send(1, 0, -1) = 1; waiting(0) = 1\n" + other
                + "state(1) = 1; waiting(0) = 1; receive(0, 1, 0) = 0; state(1) = 0",
            "spawn(1, -1) = 1; spawn(0, -1) = 2; call(1, 0, -1) = 1; waiting(0) = 1\n" + other
                + "state(1) = 3; waiting(0) = 1; receive(0, 1, 0) = 0; state(1) = 2",
            "spawn(1, 0) = 1; spawn(0, -1) = 2; access(1, 3, false, 0) = 1; waiting(0) = 1\n" + other
                + "state(1) = 4; waiting(0) = 1; receive(0, 1, 0) = 0; state(1) = 5");
        sentences.hold("Threads", "the thread that it is RECEIVING from (if not from any) is its SOURCE", """
            spawn(0, -1) = 1; spawn(0, -1) = 2; receive(0, 1, -1) = 1; send(2, 0, 0) = 2; call(2, 0, 0) = 2; state(0) = 2
            send(1, 0, 0) = 0; state(0) = 0; sender(0) = 1
            """);
        sentences.hold("Threads", "or RESTING for is its SOURCE", """
            spawn(1, 0) = 1; spawn(0, -1) = 2; access(1, 3, false, 0) = 1; receive(0, 1, 0) = 0
            offer(2, 5, 2, false) = true; send(2, 1, 0) = 2; call(2, 1, 0) = 2; state(1) = 5; mapping(1, 3) = -1
            offer(0, 6, 2, false) = true; send(0, 1, 0) = 0; state(1) = 0; mapping(1, 3) = 1062
            """);
    }

    private static void pages() {
        StringBuilder firstPages = new StringBuilder();
        for (int space = -1; space <= 6; space++) {
            for (int p = -1; p <= 16; p++) {
                boolean held = space == 0 && p >= 0 && p < 16;
                firstPages.append(Texts.page(space, p, held ? 10 * p + 2 : -1, held ? 0 : -1));
            }
        }
        sentences.hold("Pages", "At first page k of space 0 holds frame k, with level 2 and depth 0, for all k, "
            + "and there are no other mappings.", firstPages.toString());
        StringBuilder corners = new StringBuilder(Texts.SPACES);
        for (int space = 1; space < 6; space++) {
            corners.append(Texts.map(0, space, space, 0)).append(Texts.map(0, 10 + space, space, 15));
        }
        for (int space = 1; space < 6; space++) {
            corners.append(Texts.page(space, 0, 1002 + 10 * space, 0)).append(Texts.page(space, 15, 1102 + 10 * space, 0));
            corners.append(Texts.empty(space, 1)).append(Texts.empty(space, 14)).append(Texts.empty(space, 16));
        }
        sentences.hold("Pages", "Every space has the pages 0 .. 15.", corners.toString());
        StringBuilder words = new StringBuilder();
        for (int frame = 0; frame < 16; frame++) {
            words.append(Texts.due(0, "word", frame)).append(Texts.due(0, "access", 0, frame, true, 100 + frame));
        }
        for (int frame = 0; frame < 16; frame++) {
            words.append(Texts.due(100 + frame, "word", frame));
        }
        sentences.hold("Pages", "There are the FRAMES 0 .. 15, each with a WORD (an int, 0 at first).",
            words + "word(-1) = 0; word(16) = 0", """
            access(0, 7, true, MIN) = 0; word(7) = MIN; access(0, 7, true, MAX) = 0; word(7) = MAX
            """);
        sentences.hold("Pages", "A page of a space may hold a MAPPING: a frame, a LEVEL, and a DEPTH",
            Texts.SPACES + Texts.map(0, 3, 1, 7) + Texts.hand(0, 4, 2, 7, 1, false) + Texts.map(2, 7, 3, 7)
                + Texts.page(1, 7, 1032, 0) + Texts.page(2, 7, 1041, 1) + Texts.page(3, 7, 2041, 0)
                + Texts.page(0, 7, 72, 0) + Texts.empty(4, 7),
            Texts.SPACES + Texts.map(0, 3, 1, 7) + Texts.map(0, 4, 1, 7) + Texts.page(1, 7, 1042, 0) + Texts.page(0, 3, 32, 0)
                + Texts.page(0, 4, 42, 1));
        sentences.hold("Pages", "a LEVEL (1 reading, 2 reading and writing)",
            Texts.SPACES + Texts.hand(0, 3, 1, 0, 1, false) + """
            mapping(1, 0) = 1031; access(1, 0, false, 0) = 0; access(1, 0, true, 5) = 2; word(3) = 0
            """,
            Texts.SPACES + Texts.map(0, 3, 1, 0) + """
            mapping(1, 0) = 1032; access(1, 0, false, 0) = 0; access(1, 0, true, 5) = 0; word(3) = 5
            """);
    }

    private static void mappings() {
        StringBuilder deep = new StringBuilder(Texts.chain(12)).append(Texts.page(0, 3, 32, 12));
        for (int depth = 1; depth <= 12; depth++) {
            deep.append(Texts.page(Texts.chainSpace(depth), Texts.chainPage(depth), 1000 * depth + 32, 12 - depth));
        }
        sentences.hold("Pages", "and a DEPTH 0 .. 12", deep.toString());
        sentences.hold("Pages", "A mapping with depth above 0 has a PARENT, a mapping with the depth one less and the same frame",
            Texts.SPACES + Texts.map(0, 3, 1, 0) + Texts.map(1, 0, 2, 0) + Texts.map(0, 3, 2, 1)
                + "mapping(0, 3) = 32; mapping(1, 0) = 1032; mapping(2, 0) = 2032; mapping(2, 1) = 1032");
        sentences.hold("Pages", "its DESCENDANTS are those whose parent it is and their descendants",
            Texts.SPACES + Texts.map(0, 3, 1, 0) + Texts.map(1, 0, 2, 0) + Texts.map(2, 0, 3, 0) + Texts.map(0, 3, 4, 0)
                + Texts.map(1, 0, 4, 1) + Texts.map(0, 4, 5, 0) + """
            heirs(0, 3) = 5; heirs(1, 0) = 3; heirs(2, 0) = 1; heirs(3, 0) = 0; heirs(4, 0) = 0; heirs(4, 1) = 0
            heirs(0, 4) = 1; heirs(5, 0) = 0; heirs(0, 5) = 0
            """);
        sentences.hold("Removing", "TO REMOVE a mapping is to remove all its descendants and itself.",
            Texts.SPACES + Texts.map(0, 3, 1, 0) + Texts.map(1, 0, 2, 0) + Texts.map(2, 0, 3, 0) + Texts.map(0, 3, 4, 0)
                + "unmap(1, 0, 1, true) = 3\n" + Texts.empty(1, 0) + Texts.empty(2, 0) + Texts.empty(3, 0)
                + Texts.page(4, 0, 1032, 0) + Texts.page(0, 3, 32, 1),
            Texts.chain(12) + "unmap(0, 3, 1, true) = 13\n" + Texts.empty(0, 3) + Texts.empty(1, 0) + Texts.empty(2, 5),
            Texts.chain(12) + Texts.map(0, 4, 1, 0) + Texts.page(0, 3, 32, 0) + Texts.page(1, 0, 1042, 0) + Texts.empty(2, 0)
                + Texts.empty(2, 5));
    }

    private static void messageStepOne() {
        String loaded = """
            spawn(1, 0) = 1; load(0, 0, 50) = true; load(0, 1, 51) = true; load(0, 2, 52) = true; load(0, 3, 53) = true
            load(1, 0, 60) = true; load(1, 1, 61) = true; load(1, 2, 62) = true; load(1, 3, 63) = true
            """;
        sentences.hold("Message 1", "If r is RESTING, no words go.", loaded + """
            access(1, 3, false, 0) = 1; receive(0, 1, 0) = 0; offer(0, 6, 1, false) = true; send(0, 1, 0) = 0; state(1) = 0
            register(1, 0) = 60; register(1, 1) = 61; register(1, 2) = 62; register(1, 3) = 63; register(1, 4) = 0
            sender(1) = -1
            """, loaded + """
            access(1, 3, false, 0) = 1; receive(0, 1, 0) = 0; call(0, 1, 0) = 1; state(1) = 5
            register(1, 0) = 60; register(1, 1) = 61; register(1, 2) = 62; register(1, 3) = 63; register(1, 4) = 0
            sender(1) = -1
            """);
        sentences.hold("Message 1", "Else r's registers become the words of the message", loaded + """
            receive(0, 1, -1) = 1; send(1, 0, 0) = 0; register(0, 0) = 60; register(0, 1) = 61; register(0, 2) = 62
            register(0, 3) = 63; register(1, 0) = 60; register(1, 3) = 63
            """, loaded + """
            send(1, 0, -1) = 1; receive(0, -1, 0) = 0; register(0, 0) = 60; register(0, 1) = 61; register(0, 2) = 62
            register(0, 3) = 63
            """, loaded + """
            call(1, 0, -1) = 1; receive(0, -1, 0) = 0; register(0, 0) = 60; register(0, 1) = 61; register(0, 2) = 62
            register(0, 3) = 63; register(1, 0) = 60
            """, "spawn(0, -1) = 1; load(1, 0, MIN) = true; load(1, 3, MAX) = true; send(1, 0, -1) = 1; receive(0, -1, 0) = 0\n"
            + "register(0, 0) = MIN; register(0, 1) = 0; register(0, 2) = 0; register(0, 3) = MAX");
        sentences.hold("Message 1", "r's sender becomes s", """
            spawn(0, -1) = 1; spawn(0, -1) = 2; receive(1, -1, -1) = 1; send(2, 1, 0) = 0; sender(1) = 2; sender(2) = -1
            receive(1, -1, -1) = 1; call(0, 1, 0) = 1; sender(1) = 0; sender(0) = -1
            """);
        sentences.hold("Message 1", "and r's count grows by 1", """
            spawn(0, -1) = 1; receive(1, -1, -1) = 1; send(0, 1, 0) = 0; register(1, 4) = 1; register(0, 4) = 0
            send(0, 1, -1) = 1; register(1, 4) = 1; receive(1, 0, 0) = 0; register(1, 4) = 2
            receive(1, 0, 0) = 2; register(1, 4) = 2; call(0, 1, -1) = 1; receive(1, 0, 0) = 0; register(1, 4) = 3
            send(1, 0, 0) = 0; register(0, 4) = 1; register(1, 4) = 3
            """);
        String fault = "register(0, 2) = 0; register(0, 3) = 0; register(0, 4) = 1; sender(0) = 1";
        sentences.hold("Message 1", "The words of a FAULTING thread's message are: the page, the level that is wanted, 0, 0",
            loaded + "access(1, 15, true, 9) = 1; receive(0, 1, 0) = 0; register(0, 0) = 15; register(0, 1) = 2\n" + fault,
            loaded + "access(1, 0, false, 9) = 1; receive(0, -1, 0) = 0; register(0, 0) = 0; register(0, 1) = 1\n" + fault,
            loaded + "receive(0, 1, -1) = 1; access(1, 7, false, 9) = 1; register(0, 0) = 7; register(0, 1) = 1\n" + fault
                + "; register(1, 0) = 60; register(1, 1) = 61");
    }

    private static void messageOfOthers() {
        String loaded = """
            spawn(1, -1) = 1; load(1, 0, 60) = true; load(1, 1, 61) = true; load(1, 2, 62) = true; load(1, 3, 63) = true
            """;
        String taken = Texts.registers(0, 60, 61, 62, 63, 1);
        String ownStay = Texts.registers(1, 60, 61, 62, 63, 0);
        sentences.hold("Message 1", "The words are, of all others: the registers of s",
            loaded + "receive(0, 1, -1) = 1; send(1, 0, 0) = 0\n" + taken + ownStay,
            loaded + "send(1, 0, 9) = 1; receive(0, -1, 0) = 0\n" + taken + ownStay,
            loaded + "receive(0, -1, -1) = 1; call(1, 0, 0) = 1\n" + taken + ownStay,
            loaded + "call(1, 0, 9) = 1; receive(0, 1, 0) = 0\n" + taken + ownStay);
        sentences.hold("Message 1", "the registers of s (each thread goes on with its own)",
            loaded + "send(1, 0, -1) = 1; receive(0, 1, 0) = 0; load(1, 0, 5) = true; load(0, 3, 6) = true\n"
                + Texts.registers(0, 60, 61, 62, 6) + Texts.registers(1, 5, 61, 62, 63));
    }

    private static void messageOrder() {
        String rests = "spawn(1, 0) = 1; access(0, 6, true, 13) = 0; access(1, 3, true, 14) = 1; receive(0, 1, 0) = 0\n";
        sentences.hold("Message", "A MESSAGE goes from a thread s, which sends, to a thread r, which receives from s or from any",
            "spawn(1, -1) = 1; spawn(2, -1) = 2; receive(1, 2, -1) = 1; send(0, 1, 0) = 2; send(2, 1, 0) = 0; sender(1) = 2",
            "spawn(1, -1) = 1; spawn(2, -1) = 2; receive(1, -1, -1) = 1; send(2, 1, 0) = 0; sender(1) = 2; state(0) = 0",
            "spawn(1, -1) = 1; receive(1, 0, -1) = 1; receive(0, 1, -1) = 1; state(0) = 2; state(1) = 2",
            "spawn(1, -1) = 1; send(1, 0, -1) = 1; send(0, 1, -1) = 1; state(0) = 1; state(1) = 1");
        sentences.hold("Message", "in this order (the offer is handed on before the access is tried)",
            rests + "offer(0, 6, 2, false) = true; send(0, 1, 0) = 0\n" + Texts.at(1, 0, 0) + "word(6) = 14; waiting(0) = 0",
            rests + "offer(0, 6, 1, false) = true; send(0, 1, 0) = 0\n" + Texts.page(1, 3, 1061, 0)
                + "state(1) = 4; word(6) = 13; offer(0, 7, 2, true) = true; receive(0, 1, 0) = 0; send(0, 1, 0) = 0\n"
                + Texts.page(1, 3, 72, 0) + Texts.page(0, 6, 62, 0) + "state(1) = 0; word(7) = 14; word(6) = 13");
        sentences.hold("Message", "in this order (s calls and so receives before the access is tried)",
            rests + "load(0, 0, 50) = true; call(0, 1, 0) = 1; state(0) = 0; state(1) = 5\n" + Texts.registers(0, 3, 2, 0, 0, 2),
            rests + "offer(0, 6, 1, false) = true; call(0, 1, 0) = 1; state(0) = 0; state(1) = 5; mapping(1, 3) = 1061\n"
                + "offer(0, 6, 2, false) = true; call(0, 1, 0) = 1; state(0) = 2; state(1) = 0; word(6) = 14");
        sentences.hold("Message", "in this order (s that sends runs before the access is tried)",
            rests + "send(0, 1, 0) = 0\n" + Texts.at(0, 0, 0) + "state(1) = 4; waiting(0) = 1; register(0, 4) = 1");
    }

    private static void messageStepTwo() {
        sentences.hold("Message 2", "If s is not FAULTING and has an offer, and r has a window, the offer is HANDED ON", """
            spawn(1, -1) = 1; window(1, 0) = true; offer(0, 15, 2, false) = true; receive(1, 0, -1) = 1; send(0, 1, 0) = 0
            mapping(1, 0) = 1152
            """, """
            spawn(1, -1) = 1; window(1, 15) = true; offer(0, 0, 1, false) = true; call(0, 1, -1) = 1; receive(1, 0, 0) = 0
            mapping(1, 15) = 1001
            """, """
            spawn(1, -1) = 1; window(1, 15) = true; offer(0, 0, 1, false) = true; receive(1, 0, -1) = 1; call(0, 1, 0) = 1
            mapping(1, 15) = 1001
            """);
        sentences.hold("Message 2", "s has an offer (it has none: nothing is handed on)", """
            spawn(1, -1) = 1; window(1, 0) = true; offer(0, 5, 2, false) = true; offer(0, -1, 2, false) = true
            receive(1, 0, -1) = 1; send(0, 1, 0) = 0; state(1) = 0; mapping(1, 0) = -1; heirs(0, 5) = 0; heirs(0, 0) = 0
            """);
        sentences.hold("Message 2", "r has a window (it has none: nothing is handed on)", """
            spawn(1, -1) = 1; window(1, 0) = true; window(1, -1) = true; offer(0, 5, 2, true) = true
            receive(1, 0, -1) = 1; send(0, 1, 0) = 0; state(1) = 0; mapping(0, 5) = 52; heirs(0, 5) = 0; mapping(1, 0) = -1
            """);
        sentences.hold("Message 2", "the window of a RESTING thread is, for this, the page that it wants", """
            spawn(1, 0) = 1; window(1, 9) = true; access(1, 3, false, 0) = 1; receive(0, 1, 0) = 0
            offer(0, 6, 2, false) = true; send(0, 1, 0) = 0; mapping(1, 3) = 1062; mapping(1, 9) = -1
            receive(1, 0, -1) = 1; offer(0, 7, 1, false) = true; send(0, 1, 0) = 0; mapping(1, 9) = 1071; mapping(1, 3) = 1062
            """, """
            spawn(1, 0) = 1; access(1, 0, true, 8) = 1; receive(0, 1, 0) = 0; offer(0, 6, 2, false) = true; call(0, 1, 0) = 1
            mapping(1, 0) = 1062; word(6) = 8
            """);
        sentences.hold("Message 2", "in any case, unless s is FAULTING, s has no offer any more",
            Texts.SPACES + Texts.map(0, 5, 1, 4) + """
            window(1, 6) = true; receive(1, 0, -1) = 1; send(0, 1, 0) = 0; mapping(1, 6) = -1
            """, """
            spawn(1, -1) = 1; offer(0, 5, 2, false) = true; receive(1, 0, -1) = 1; send(0, 1, 0) = 0
            window(1, 6) = true; receive(1, 0, -1) = 1; send(0, 1, 0) = 0; mapping(1, 6) = -1
            """, """
            spawn(0, -1) = 1; window(1, 5) = true; offer(0, 5, 2, false) = true; receive(1, 0, -1) = 1; send(0, 1, 0) = 0
            window(1, 6) = true; receive(1, 0, -1) = 1; send(0, 1, 0) = 0; mapping(0, 6) = 62; heirs(0, 5) = 0
            """, """
            spawn(1, -1) = 1; offer(0, 5, 2, false) = true; call(0, 1, -1) = 1; receive(1, 0, 0) = 0; send(1, 0, 0) = 0
            window(1, 6) = true; receive(1, 0, -1) = 1; send(0, 1, 0) = 0; mapping(1, 6) = -1
            """, """
            spawn(1, 0) = 1; access(1, 3, false, 0) = 1; receive(0, 1, 0) = 0; offer(0, 6, 2, false) = true
            send(0, 1, 0) = 0; window(1, 7) = true; receive(1, 0, -1) = 1; send(0, 1, 0) = 0; mapping(1, 7) = -1
            """);
        sentences.hold("Message 2", "unless s is FAULTING (its offer stays, and is not handed on)", """
            spawn(1, 0) = 1; window(1, 2) = true; offer(0, 2, 2, false) = true; receive(1, 0, -1) = 1; send(0, 1, 0) = 0
            window(0, 15) = true; offer(1, 2, 2, false) = true; access(1, 5, false, 0) = 1; receive(0, 1, 0) = 0
            mapping(0, 15) = 152; offer(0, 5, 2, false) = true; send(0, 1, 0) = 0; state(1) = 0
            receive(0, 1, -1) = 1; send(1, 0, 0) = 0; mapping(0, 15) = 2022
            """);
    }

    private static void messageStepThree() {
        sentences.hold("Message 3", "s: if it sends, it is RUNNING with the outcome 0",
            "spawn(0, -1) = 1; send(0, 1, 0) = 2; outcome(0) = 1; receive(1, 0, -1) = 1; send(0, 1, 5) = 0\n" + Texts.at(0, 0, 0),
            "spawn(0, -1) = 1; send(0, 1, 0) = 2; send(0, 1, 5) = 1; state(0) = 1; receive(1, 0, 0) = 0\n" + Texts.at(0, 0, 0));
        sentences.hold("Message 3", "if it calls, it is RECEIVING from r without a limit of time", """
            spawn(0, -1) = 1; spawn(0, -1) = 2; receive(1, 0, -1) = 1; call(0, 1, 2) = 1; state(0) = 2; 120 x tick() = 0
            send(2, 0, 0) = 2; state(0) = 2; send(1, 0, 0) = 0; state(0) = 0; outcome(0) = 0
            """, """
            spawn(0, -1) = 1; spawn(0, -1) = 2; call(0, 1, 2) = 1; tick() = 0; receive(1, -1, 0) = 0; state(0) = 2
            120 x tick() = 0; send(2, 0, 0) = 2; state(0) = 2; send(1, 0, 0) = 0; state(0) = 0; outcome(0) = 0
            """);
        sentences.hold("Message 3", "if FAULTING, it is RESTING for r", """
            spawn(1, 0) = 1; access(1, 3, false, 0) = 1; state(1) = 4; receive(0, 1, 0) = 0; state(1) = 5; waiting(0) = 0
            120 x tick() = 0; state(1) = 5; send(0, 1, 0) = 0; state(1) = 4
            """, """
            spawn(1, 0) = 1; receive(0, -1, -1) = 1; access(1, 3, false, 0) = 1; state(1) = 5; waiting(0) = 0
            """);
    }

    private static void messageStepFour() {
        sentences.hold("Message 4", "r: if it was RECEIVING, it is RUNNING with the outcome 0",
            "spawn(0, -1) = 1; receive(1, 0, 0) = 2; outcome(1) = 1; receive(1, 0, 3) = 1; send(0, 1, 0) = 0\n"
                + Texts.at(1, 0, 0) + "5 x tick() = 0",
            "spawn(0, -1) = 1; receive(1, 0, 0) = 2; send(0, 1, -1) = 1; receive(1, 0, 3) = 0\n" + Texts.at(1, 0, 0),
            "spawn(1, 0) = 1; receive(0, 1, 0) = 2; receive(0, 1, 3) = 1; access(1, 0, false, 0) = 1\n" + Texts.at(0, 0, 0)
                + "5 x tick() = 0");
        sentences.hold("Message 4", "if it was RESTING, its access is TRIED", """
            spawn(1, 0) = 1; access(0, 6, true, 13) = 0; access(1, 3, false, 0) = 1; receive(0, 1, 0) = 0
            offer(0, 6, 1, false) = true; send(0, 1, 0) = 0; state(1) = 0; outcome(1) = 0; value(1) = 13
            """, """
            spawn(1, 0) = 1; access(1, 3, true, 9) = 1; receive(0, 1, 0) = 0; offer(0, 6, 1, false) = true; send(0, 1, 0) = 0
            state(1) = 4; waiting(0) = 1; word(6) = 0; mapping(1, 3) = 1061
            """, """
            spawn(1, 0) = 1; access(1, 3, true, 9) = 1; receive(0, 1, 0) = 0; send(0, 1, 0) = 0; state(1) = 4
            receive(0, 1, 0) = 0; register(0, 0) = 3; register(0, 1) = 2; register(0, 4) = 2; state(1) = 5
            """);
        sentences.hold("Message", "in this order (the offer before the access, the caller's state before the access)", """
            spawn(1, 0) = 1; access(1, 3, true, 9) = 1; receive(0, 1, 0) = 0; offer(0, 6, 1, false) = true; call(0, 1, 0) = 1
            state(0) = 0; outcome(0) = 0; state(1) = 5; register(0, 0) = 3; register(0, 1) = 2; register(0, 4) = 2
            mapping(1, 3) = 1061; offer(0, 6, 2, false) = true; call(0, 1, 0) = 1; state(0) = 2; state(1) = 0; word(6) = 9
            """);
    }

    private static void handingOnNothing() {
        String twoInSpaceZero = Texts.SPACES + "spawn(0, -1) = 6\n";
        sentences.hold("Handing on", "if these are the same page of the same space, nothing",
            twoInSpaceZero + Texts.map(0, 3, 1, 3) + Texts.hand(0, 3, 6, 3, 1, false) + Texts.page(0, 3, 32, 1)
                + Texts.page(1, 3, 1032, 0),
            twoInSpaceZero + Texts.map(0, 3, 1, 3) + Texts.hand(0, 3, 6, 3, 1, true) + Texts.page(0, 3, 32, 1)
                + Texts.page(1, 3, 1032, 0));
        sentences.hold("Handing on", "the same page of the same space (of another space, or another page, it is not the same)",
            Texts.SPACES + Texts.map(0, 3, 1, 3) + Texts.page(1, 3, 1032, 0),
            twoInSpaceZero + Texts.map(0, 3, 6, 4) + Texts.page(0, 4, 1032, 0) + Texts.page(0, 3, 32, 1),
            twoInSpaceZero + Texts.hand(0, 3, 6, 4, 2, true) + Texts.page(0, 4, 32, 0) + Texts.empty(0, 3));
        sentences.hold("Handing on", "or page p holds no mapping, nothing",
            Texts.SPACES + Texts.map(0, 3, 1, 3) + Texts.map(1, 3, 3, 0) + Texts.map(2, 5, 1, 3) + Texts.page(1, 3, 1032, 1),
            Texts.SPACES + Texts.map(0, 3, 1, 3) + Texts.map(1, 3, 3, 0) + Texts.hand(2, 5, 1, 3, 2, true)
                + Texts.page(1, 3, 1032, 1) + Texts.empty(2, 5),
            Texts.SPACES + Texts.map(2, 5, 1, 3) + Texts.empty(1, 3));
    }

    private static void handingOnFromSpaceToSpace() {
        String others = Texts.SPACES + Texts.map(0, 1, 2, 5) + Texts.map(0, 2, 4, 5) + Texts.map(0, 3, 2, 9);
        sentences.hold("Handing on", "HANDING ON page p of the space of s to page q of the space of r (q being the window)",
            others + Texts.map(2, 5, 4, 9) + Texts.page(4, 9, 2012, 0) + Texts.page(2, 5, 1012, 1) + Texts.page(4, 5, 1022, 0)
                + Texts.page(2, 9, 1032, 0) + Texts.page(0, 9, 92, 0),
            others + Texts.hand(2, 5, 4, 9, 1, true) + Texts.page(4, 9, 1012, 0) + Texts.empty(2, 5) + Texts.page(4, 5, 1022, 0)
                + Texts.page(2, 9, 1032, 0) + Texts.page(0, 9, 92, 0) + Texts.page(0, 5, 52, 0));
    }

    private static void handingOnRemoves() {
        String tree = Texts.SPACES + Texts.map(0, 3, 1, 3) + Texts.map(1, 3, 2, 3) + Texts.map(2, 3, 3, 3)
            + Texts.map(0, 3, 4, 0);
        sentences.hold("Handing on", "Else what page q holds, if it does, is removed.",
            tree + Texts.map(0, 9, 1, 3) + Texts.page(1, 3, 1092, 0) + Texts.empty(2, 3) + Texts.empty(3, 3)
                + Texts.page(4, 0, 1032, 0) + Texts.page(0, 3, 32, 1),
            tree + Texts.hand(0, 9, 1, 3, 1, true) + Texts.page(1, 3, 92, 0) + Texts.empty(2, 3) + Texts.empty(3, 3)
                + Texts.page(0, 3, 32, 1),
            tree + Texts.hand(0, 3, 1, 3, 1, false) + Texts.page(1, 3, 1031, 0) + Texts.empty(2, 3) + Texts.page(0, 3, 32, 2));
        sentences.hold("Handing on", "If page p holds no mapping now (it was removed with that), nothing more.",
            tree + Texts.map(3, 3, 0, 3) + Texts.empty(0, 3) + Texts.empty(1, 3) + Texts.empty(3, 3) + Texts.empty(4, 0),
            tree + Texts.hand(3, 3, 0, 3, 2, true) + Texts.empty(0, 3) + Texts.empty(3, 3),
            tree + Texts.hand(3, 3, 2, 3, 2, true) + Texts.empty(2, 3) + Texts.empty(3, 3) + Texts.page(1, 3, 1032, 0));
    }

    private static void handingOnGrants() {
        sentences.hold("Handing on", "If the offer is a GRANT: the mapping moves from page p to page q",
            Texts.SPACES + Texts.hand(0, 3, 1, 4, 2, true) + Texts.empty(0, 3) + Texts.page(1, 4, 32, 0),
            Texts.SPACES + Texts.map(0, 3, 1, 0) + Texts.map(1, 0, 2, 0) + Texts.map(1, 0, 3, 0) + Texts.map(2, 0, 4, 0)
                + Texts.hand(1, 0, 2, 0, 2, true) + Texts.empty(1, 0) + Texts.page(2, 0, 1032, 1) + Texts.page(3, 0, 2032, 0)
                + Texts.empty(4, 0) + Texts.page(0, 3, 32, 2));
        sentences.hold("Handing on", "with its level (that of the offer is not looked at)",
            Texts.SPACES + Texts.map(0, 3, 1, 4) + Texts.hand(1, 4, 2, 4, 1, true) + Texts.page(2, 4, 1032, 0),
            Texts.SPACES + Texts.hand(0, 3, 1, 4, 1, false) + Texts.hand(1, 4, 2, 4, 2, true) + Texts.page(2, 4, 1031, 0));
        sentences.hold("Handing on", "its depth",
            Texts.SPACES + Texts.map(0, 3, 1, 4) + Texts.hand(1, 4, 2, 4, 2, true) + Texts.page(2, 4, 1032, 0),
            Texts.chain(12) + Texts.hand(2, 5, 3, 7, 2, true) + Texts.page(3, 7, 12032, 0) + Texts.empty(2, 5)
                + Texts.hand(0, 3, 4, 0, 2, true) + Texts.page(4, 0, 32, 12));
        sentences.hold("Handing on", "its parent",
            Texts.SPACES + Texts.map(0, 3, 1, 4) + Texts.hand(1, 4, 2, 4, 2, true) + Texts.map(0, 5, 1, 4)
                + "heirs(0, 3) = 1; unmap(1, 4, 1, false) = 0; mapping(2, 4) = 1032; unmap(0, 3, 1, false) = 1\n"
                + Texts.empty(2, 4) + Texts.page(1, 4, 1052, 0));
        sentences.hold("Handing on", "and its descendants",
            Texts.SPACES + Texts.map(0, 3, 1, 4) + Texts.map(1, 4, 2, 0) + Texts.map(2, 0, 3, 0) + Texts.hand(1, 4, 4, 9, 2, true)
                + Texts.map(0, 5, 1, 4) + Texts.page(4, 9, 1032, 2) + Texts.page(1, 4, 1052, 0) + Texts.page(0, 3, 32, 3)
                + "unmap(4, 9, 1, false) = 2\n" + Texts.empty(2, 0) + Texts.empty(3, 0),
            Texts.SPACES + Texts.map(0, 3, 1, 4) + Texts.map(1, 4, 0, 0) + Texts.map(1, 4, 5, 15)
                + Texts.hand(1, 4, 2, 7, 2, true) + Texts.page(2, 7, 1032, 2) + "unmap(2, 7, 1, false) = 2\n"
                + Texts.empty(0, 0) + Texts.empty(5, 15) + Texts.page(0, 3, 32, 1),
            Texts.chain(12) + Texts.hand(1, 0, 5, 5, 2, true) + Texts.page(5, 5, 1032, 11) + Texts.page(0, 3, 32, 12)
                + "unmap(5, 5, 1, true) = 12\n" + Texts.page(0, 3, 32, 0));
    }

    private static void handingOnDerives() {
        sentences.hold("Handing on", "Else, if its depth is 12, nothing",
            Texts.chain(12) + Texts.map(2, 5, 3, 0) + Texts.empty(3, 0) + Texts.page(2, 5, 12032, 0) + Texts.page(0, 3, 32, 12),
            Texts.chain(11) + Texts.map(1, 5, 3, 0) + Texts.page(3, 0, 12032, 0) + Texts.page(1, 5, 11032, 1));
        sentences.hold("Handing on", "if its depth is 12, nothing (what page q held is removed before that)",
            Texts.chain(12) + Texts.map(0, 4, 3, 0) + Texts.map(3, 0, 4, 0) + Texts.map(2, 5, 3, 0) + Texts.empty(3, 0)
                + Texts.empty(4, 0) + Texts.page(0, 4, 42, 0) + Texts.page(2, 5, 12032, 0));
        sentences.hold("Handing on", "else page q holds a new mapping, whose parent is that of page p: the same frame",
            Texts.SPACES + Texts.map(0, 3, 1, 4) + Texts.map(1, 4, 2, 15) + Texts.page(0, 3, 32, 2) + Texts.page(1, 4, 1032, 1)
                + Texts.page(2, 15, 2032, 0) + "unmap(1, 4, 1, false) = 1\n" + Texts.empty(2, 15));
        String bothLevels = Texts.SPACES + Texts.hand(0, 3, 1, 1, 1, false) + Texts.hand(0, 3, 1, 2, 2, false);
        sentences.hold("Handing on", "the lesser one of the offer's level and the parent's",
            bothLevels + Texts.page(1, 1, 1031, 0) + Texts.page(1, 2, 1032, 0),
            bothLevels + Texts.hand(1, 1, 2, 1, 1, false) + Texts.page(2, 1, 2031, 0),
            bothLevels + Texts.hand(1, 1, 2, 1, 2, false) + Texts.page(2, 1, 2031, 0),
            bothLevels + Texts.hand(1, 2, 2, 1, 1, false) + Texts.page(2, 1, 2031, 0) + Texts.page(1, 2, 1032, 1),
            bothLevels + Texts.hand(1, 2, 2, 1, 2, false) + Texts.page(2, 1, 2032, 0));
    }

    private static void accessDone() {
        String readable = Texts.SPACES + Texts.hand(0, 3, 1, 7, 1, false) + "access(0, 3, true, 21) = 0\n";
        String writable = Texts.SPACES + Texts.map(0, 3, 1, 7) + "access(0, 3, true, 21) = 0\n";
        sentences.hold("Access", "if page p of its space holds a mapping with the level wanted or a higher one, it is done",
            readable + "access(1, 7, false, 0) = 0; state(1) = 0; value(1) = 21",
            writable + "access(1, 7, false, 0) = 0; state(1) = 0; value(1) = 21",
            writable + "access(1, 7, true, 22) = 0; state(1) = 0; word(3) = 22",
            readable + "access(1, 7, true, 22) = 2; state(1) = 6; word(3) = 21");
        sentences.hold("Access", "page p of its space",
            writable + "access(1, 3, false, 0) = 2; access(2, 7, false, 0) = 2; access(0, 7, true, 5) = 0; word(7) = 5\n"
                + "word(3) = 21");
        sentences.hold("Access", "reading, t's value becomes the word of the frame",
            writable + "access(0, 7, true, 99) = 0; access(1, 7, false, 44) = 0; value(1) = 21; word(3) = 21; value(0) = 0",
            "access(0, 3, true, MIN) = 0; access(0, 3, false, 0) = 0; value(0) = MIN; access(0, 4, false, 0) = 0; value(0) = 0");
        sentences.hold("Access", "writing, the word becomes what is written",
            writable + "access(1, 7, true, MAX) = 0; word(3) = MAX; word(7) = 0; value(1) = 0; access(1, 7, true, 0) = 0\n"
                + "word(3) = 0");
        sentences.hold("Access", "t is RUNNING with the outcome 0",
            "receive(0, -1, 0) = 2; outcome(0) = 1; access(0, 3, false, 0) = 0\n" + Texts.at(0, 0, 0),
            "receive(0, -1, 0) = 2; outcome(0) = 1; access(0, 3, true, 5) = 0\n" + Texts.at(0, 0, 0),
            "spawn(1, 0) = 1; send(1, 0, 0) = 2; access(1, 3, false, 0) = 1; outcome(1) = 1; receive(0, 1, 0) = 0\n"
                + "outcome(1) = 1\n" + "offer(0, 3, 1, false) = true; send(0, 1, 0) = 0\n" + Texts.at(1, 0, 0));
    }

    private static void accessNotDone() {
        sentences.hold("Access", "Else, if t has no pager, t is STUCK.",
            "spawn(1, -1) = 1; access(1, 0, false, 0) = 2; state(1) = 6; spawn(1, -1) = 2; access(2, 15, true, 1) = 2\n"
                + "state(2) = 6");
        sentences.hold("Access", "Else t is FAULTING on its pager",
            "spawn(1, 0) = 1; access(1, 0, false, 0) = 1; state(1) = 4; waiting(0) = 1",
            "spawn(1, -1) = 1; spawn(2, 1) = 2; access(2, 0, true, 0) = 1; state(2) = 4; waiting(1) = 1; waiting(0) = 0",
            Texts.ALL_STATES.replace("spawn(1, -1) = 6", "spawn(1, -1) = 6; spawn(1, 6) = 7")
                + "access(7, 9, false, 0) = 1; state(7) = 4; state(6) = 6; waiting(6) = 1");
        sentences.hold("Access", "if this is RECEIVING from t or from any, the message goes at once",
            "spawn(1, 0) = 1; receive(0, -1, -1) = 1; access(1, 3, true, 0) = 1; state(1) = 5; state(0) = 0; register(0, 0) = 3",
            "spawn(1, 0) = 1; receive(0, 1, -1) = 1; access(1, 3, true, 0) = 1; state(1) = 5; state(0) = 0; register(0, 0) = 3",
            "spawn(1, 0) = 1; spawn(1, 0) = 2; receive(0, 2, -1) = 1; access(1, 3, true, 0) = 1; state(1) = 4; state(0) = 2",
            "spawn(1, 0) = 1; spawn(1, 0) = 2; send(0, 2, -1) = 1; access(1, 3, true, 0) = 1; state(1) = 4; state(0) = 1",
            "spawn(1, 0) = 1; spawn(1, 0) = 2; call(0, 2, -1) = 1; access(1, 3, true, 0) = 1; state(1) = 4; state(0) = 3");
    }

    private static void accessWanted() {
        String reads = "spawn(1, 0) = 1; access(0, 6, true, 13) = 0; access(1, 3, false, 0) = 1; receive(0, 1, 0) = 0\n";
        String writes = "spawn(1, 0) = 1; access(0, 6, true, 13) = 0; access(1, 3, true, 14) = 1; receive(0, 1, 0) = 0\n";
        sentences.hold("Access", "for reading (level 1 is wanted) or writing (level 2), is TRIED",
            reads + "register(0, 1) = 1; offer(0, 6, 1, false) = true; send(0, 1, 0) = 0; state(1) = 0; value(1) = 13",
            writes + "register(0, 1) = 2; offer(0, 6, 1, false) = true; send(0, 1, 0) = 0; state(1) = 4; word(6) = 13\n"
                + "receive(0, 1, 0) = 0; register(0, 0) = 3; register(0, 1) = 2; offer(0, 6, 2, false) = true\n"
                + "send(0, 1, 0) = 0; state(1) = 0; word(6) = 14; value(1) = 0");
    }

    private static void pagersOfPagers() {
        sentences.hold("Access", "(That a pager RESTS for a thread whose pager it is cannot be, "
            + "since a pager was there before its thread.)", """
            spawn(1, 0) = 1; spawn(2, 1) = 2; access(1, 3, false, 0) = 1; receive(0, 1, 0) = 0; state(1) = 5
            access(2, 4, true, 8) = 1; state(2) = 4; state(1) = 5; waiting(1) = 1; register(1, 4) = 0
            offer(0, 6, 2, false) = true; send(0, 1, 0) = 0; state(1) = 0; state(2) = 4
            receive(1, -1, 0) = 0; sender(1) = 2; register(1, 0) = 4; register(1, 1) = 2; state(2) = 5
            offer(1, 3, 2, false) = true; send(1, 2, 0) = 0; state(2) = 0; word(6) = 8; mapping(2, 4) = 2062
            """, """
            spawn(1, 0) = 1; spawn(2, 1) = 2; delete(1) = true; spawn(1, 2) = 1; access(1, 3, false, 0) = 1; waiting(2) = 1
            receive(2, 1, 0) = 0; state(1) = 5; access(2, 4, false, 0) = 2; state(2) = 6; state(1) = 5; waiting(1) = 0
            """);
    }

    private static void time() {
        sentences.hold("Time", "NOW is 0 at first. (a limit counts from NOW)",
            "spawn(0, -1) = 1; receive(1, 0, 1) = 1; tick() = 1; state(1) = 0",
            "spawn(0, -1) = 1; 150 x tick() = 0; receive(1, 0, 3) = 1; 2 x tick() = 0; tick() = 1; state(1) = 0");
        sentences.hold("Time", "A LIMIT is 0 (what can't be done at once is not waited for)",
            "spawn(0, -1) = 1; send(0, 1, 0) = 2\n" + Texts.at(0, 0, 1) + "waiting(1) = 0; tick() = 0",
            "spawn(0, -1) = 1; call(0, 1, 0) = 2\n" + Texts.at(0, 0, 1) + "waiting(1) = 0; tick() = 0",
            "spawn(0, -1) = 1; receive(0, 1, 0) = 2\n" + Texts.at(0, 0, 1) + "send(1, 0, 0) = 2; tick() = 0");
        String three = "spawn(0, -1) = 1; spawn(0, -1) = 2; spawn(0, -1) = 3\n";
        sentences.hold("Time", "1 .. 100 (it is waited for until NOW is that much greater)",
            three + "send(1, 0, 1) = 1; call(2, 0, 1) = 1; receive(3, 0, 1) = 1; tick() = 3; state(1) = 0; state(2) = 0\n"
                + "state(3) = 0",
            three + "send(1, 0, 100) = 1; call(2, 0, 100) = 1; receive(3, 0, 100) = 1; 99 x tick() = 0; state(1) = 1\n"
                + "state(2) = 3\n" + "state(3) = 2; tick() = 3; state(1) = 0; state(2) = 0; state(3) = 0");
        sentences.hold("Time", "or -1 (it is waited for without a limit)",
            three + "send(1, 0, -1) = 1; call(2, 0, -1) = 1; receive(3, 0, -1) = 1; 490 x tick() = 0; state(1) = 1\n"
                + "state(2) = 3; state(3) = 2");
    }

    private static void threadsEnd() {
        sentences.hold("Thread's end", "THREAD t ends when it is deleted",
            Texts.ALL_STATES + "spawn(1, -1) = 7; spawn(1, -1) = -1; 150 x tick() = 0; spawn(1, -1) = -1\n"
                + "state(1) = 1; state(2) = 2; state(3) = 3; state(4) = 4; state(5) = 5; state(6) = 6; state(7) = 0\n"
                + "delete(6) = true; state(6) = -1; send(0, 6, 0) = -1; spawn(1, 6) = -1; spawn(1, -1) = 6; state(6) = 0");
        String end = "delete(5) = true\n";
        sentences.hold("Thread's end", "every thread SENDING to it or CALLING it is RUNNING with the outcome 2",
            Texts.SPACES + "send(1, 5, -1) = 1; call(2, 5, 7) = 1; send(3, 4, -1) = 1\n" + end + Texts.at(1, 0, 2)
                + Texts.at(2, 0, 2) + Texts.at(3, 1, 0) + "9 x tick() = 0");
        sentences.hold("Thread's end", "and every thread RECEIVING from it",
            Texts.SPACES + "receive(1, 5, -1) = 1; receive(2, 5, 7) = 1; receive(3, 4, -1) = 1\n" + end + Texts.at(1, 0, 2)
                + Texts.at(2, 0, 2) + Texts.at(3, 2, 0) + "9 x tick() = 0",
            Texts.SPACES + "receive(5, 1, -1) = 1; call(1, 5, 0) = 1; state(1) = 2\n" + end + Texts.at(1, 0, 2));
        sentences.hold("Thread's end", "(not those receiving from any)",
            Texts.SPACES + "receive(1, -1, -1) = 1; receive(2, -1, 2) = 1\n" + end + Texts.at(1, 2, 0) + Texts.at(2, 2, 0)
                + "tick() = 0; tick() = 1");
        String pager = "spawn(1, -1) = 1; spawn(2, 1) = 2; spawn(2, 1) = 3; spawn(2, 1) = 4; spawn(2, 0) = 5\n";
        sentences.hold("Thread's end", "every thread whose pager it is has no pager any more",
            pager + "delete(1) = true; access(2, 0, false, 0) = 2; access(5, 0, false, 0) = 1; state(5) = 4",
            pager + "delete(1) = true; spawn(1, -1) = 1; access(2, 0, false, 0) = 2; waiting(1) = 0",
            pager + "receive(2, 0, -1) = 1; delete(1) = true; state(2) = 2; send(0, 2, 0) = 0; access(2, 0, false, 0) = 2");
        sentences.hold("Thread's end", "and those of them that are FAULTING or RESTING are STUCK",
            pager + "access(2, 3, false, 0) = 1; access(3, 4, false, 0) = 1; access(5, 1, false, 0) = 1; receive(1, 2, 0) = 0\n"
                + "state(2) = 5; state(3) = 4; delete(1) = true; state(2) = 6; state(3) = 6; state(4) = 0; state(5) = 4\n"
                + "outcome(2) = 0; outcome(3) = 0",
            pager + "access(5, 1, false, 0) = 1; receive(0, 5, 0) = 0; delete(1) = true; state(5) = 5",
            pager + "send(2, 0, -1) = 1; call(3, 1, -1) = 1; delete(1) = true; state(2) = 1\n" + Texts.at(3, 0, 2));
        sentences.hold("Thread's end", "Mappings and words stay.",
            Texts.SPACES + Texts.map(0, 6, 1, 6) + Texts.map(1, 6, 2, 6) + "access(1, 6, true, 8) = 0; delete(1) = true\n"
                + Texts.page(1, 6, 1062, 1) + Texts.page(2, 6, 2062, 0) + Texts.page(0, 6, 62, 2) + "word(6) = 8\n"
                + "spawn(1, -1) = 1; access(1, 6, false, 0) = 0; value(1) = 8");
    }

    private static void firstRefusal() {
        for (String t : new String[] {"MIN", "-1", "7", "8", "MAX"}) {
            sentences.hold("Calls", "the first refusal is -1 (or false): there is no thread t",
                Texts.ALL_STATES + """
                delete(T) = false; load(T, 0, 5) = false; offer(T, 0, 1, false) = false; offer(T, -1, 1, false) = false
                window(T, 0) = false; window(T, -1) = false; send(T, 0, -1) = -1; call(T, 0, -1) = -1; receive(T, -1, -1) = -1
                access(T, 0, false, 0) = -1; unmap(T, 0, 1, false) = -1; state(T) = -1
                """.replace("T", t));
        }
        for (int t = 1; t < 7; t++) {
            sentences.hold("Calls", "or, where the comment says \"running t\", it is not RUNNING",
                Texts.ALL_STATES + Texts.due(t, "state", t) + """
                load(T, 0, 5) = false; offer(T, 0, 1, false) = false; offer(T, -1, 1, false) = false
                window(T, 0) = false; window(T, -1) = false; send(T, 0, -1) = -1; call(T, 0, -1) = -1; receive(T, -1, -1) = -1
                access(T, 0, false, 0) = -1; unmap(T, 0, 1, false) = -1
                """.replace("T", Integer.toString(t)) + Texts.due(t, "state", t));
        }
    }
}
