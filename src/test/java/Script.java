import java.util.ArrayList;
import java.util.List;
import java.util.regex.Matcher;
import java.util.regex.Pattern;

/**
 * A run of calls, written as text: "spawn(1, 0) = 1; 3 x tick() = 0". Calls stand between semicolons
 * or line ends; "n x" before one does it n times; MIN and MAX are the least and the greatest int;
 * true and false count 1 and 0. What stands behind the sign = is due; without it any answer is.
 */
final class Script {
    /** An object's life by the document: what later calls answer is free. */
    static final int MOST_CALLS = 512;

    private static final Pattern ROW = Pattern.compile("(?:(\\d+) x )?(\\w+)\\(([^)]*)\\)(?: = (\\S+))?");

    private final List<Call> calls = new ArrayList<>();

    /** One call with its arguments; due is null where any answer will do. */
    record Call(String name, int[] args, Long due) {
        long answer(PagerKernel x) {
            return switch (name) {
                case "spawn" -> x.spawn(at(0), at(1));
                case "delete" -> number(x.delete(at(0)));
                case "load" -> number(x.load(at(0), at(1), at(2)));
                case "offer" -> number(x.offer(at(0), at(1), at(2), at(3) != 0));
                case "window" -> number(x.window(at(0), at(1)));
                case "send" -> x.send(at(0), at(1), at(2));
                case "call" -> x.call(at(0), at(1), at(2));
                case "receive" -> x.receive(at(0), at(1), at(2));
                case "access" -> x.access(at(0), at(1), at(2) != 0, at(3));
                case "unmap" -> x.unmap(at(0), at(1), at(2), at(3) != 0);
                case "tick" -> x.tick();
                case "state" -> x.state(at(0));
                case "register" -> x.register(at(0), at(1));
                case "outcome" -> x.outcome(at(0));
                case "value" -> x.value(at(0));
                case "sender" -> x.sender(at(0));
                case "mapping" -> x.mapping(at(0), at(1));
                case "heirs" -> x.heirs(at(0), at(1));
                case "waiting" -> x.waiting(at(0));
                case "word" -> x.word(at(0));
                default -> throw new IllegalArgumentException("no call " + name);
            };
        }

        long answer(KernelModel model) {
            return switch (name) {
                case "spawn" -> model.spawn(at(0), at(1));
                case "delete" -> number(model.delete(at(0)));
                case "load" -> number(model.load(at(0), at(1), at(2)));
                case "offer" -> number(model.offer(at(0), at(1), at(2), at(3) != 0));
                case "window" -> number(model.window(at(0), at(1)));
                case "send" -> model.send(at(0), at(1), at(2));
                case "call" -> model.call(at(0), at(1), at(2));
                case "receive" -> model.receive(at(0), at(1), at(2));
                case "access" -> model.access(at(0), at(1), at(2) != 0, at(3));
                case "unmap" -> model.unmap(at(0), at(1), at(2), at(3) != 0);
                case "tick" -> model.tick();
                case "state" -> model.state(at(0));
                case "register" -> model.register(at(0), at(1));
                case "outcome" -> model.outcome(at(0));
                case "value" -> model.value(at(0));
                case "sender" -> model.sender(at(0));
                case "mapping" -> model.mapping(at(0), at(1));
                case "heirs" -> model.heirs(at(0), at(1));
                case "waiting" -> model.waiting(at(0));
                case "word" -> model.word(at(0));
                default -> throw new IllegalArgumentException("no call " + name);
            };
        }

        private int at(int n) {
            return args[n];
        }

        private static long number(boolean answer) {
            return answer ? 1 : 0;
        }

        @Override
        public String toString() {
            StringBuilder text = new StringBuilder(name).append('(');
            for (int n = 0; n < args.length; n++) {
                text.append(n == 0 ? "" : ", ").append(args[n]);
            }
            return text.append(')').toString();
        }
    }

    Script(String text) {
        for (String row : text.split("[;\n]")) {
            if (!row.isBlank()) {
                read(row.strip());
            }
        }
    }

    private void read(String row) {
        Matcher parts = ROW.matcher(row);
        if (!parts.matches()) {
            throw new IllegalArgumentException("no call: " + row);
        }
        int times = parts.group(1) == null ? 1 : Integer.parseInt(parts.group(1));
        String[] words = parts.group(3).isBlank() ? new String[0] : parts.group(3).split(",");
        int[] args = new int[words.length];
        for (int n = 0; n < words.length; n++) {
            args[n] = number(words[n].strip());
        }
        Long due = parts.group(4) == null ? null : (long) number(parts.group(4));
        for (int n = 0; n < times; n++) {
            calls.add(new Call(parts.group(2), args, due));
        }
    }

    private static int number(String word) {
        return switch (word) {
            case "MIN" -> Integer.MIN_VALUE;
            case "MAX" -> Integer.MAX_VALUE;
            case "true" -> 1;
            case "false" -> 0;
            default -> Integer.parseInt(word);
        };
    }

    List<Call> calls() {
        return calls;
    }

    /** Does the calls on an object and holds each answer against the one that is due. */
    void run(PagerKernel x, Due due, String label) {
        for (int n = 0; n < calls.size(); n++) {
            Call call = calls.get(n);
            String text = label + ": call " + (n + 1) + ", " + call;
            try {
                long got = call.answer(x);
                if (call.due() != null) {
                    due.is(text, got, call.due());
                }
            } catch (RuntimeException thrown) {
                // One call that throws must not hide what the other sentences' runs tell.
                due.no(text + ", threw " + thrown + ";", true);
                return;
            }
        }
    }

    /** What each call answers on an object. */
    long[] answers(PagerKernel x) {
        long[] answers = new long[calls.size()];
        for (int n = 0; n < answers.length; n++) {
            answers[n] = calls.get(n).answer(x);
        }
        return answers;
    }

    long[] answers(KernelModel model) {
        long[] answers = new long[calls.size()];
        for (int n = 0; n < answers.length; n++) {
            answers[n] = calls.get(n).answer(model);
        }
        return answers;
    }
}
