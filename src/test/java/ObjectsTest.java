import java.util.Random;

/**
 * Promise 1, for objects beside each other: each new one has thread 0 alone, whatever is done with
 * others. And what is said of an object's calls: the same ones always get the same answers, and none
 * throws, behind the 512th neither.
 */
public final class ObjectsTest {
    private static final int CALLS_OF_A_LONG_LIFE = 100_000;
    private static final int[] STRANGE = {Integer.MIN_VALUE, -2, 8, 15, 16, 100, 101, Integer.MAX_VALUE};
    private static final String[] NAMES = {
        "spawn", "delete", "load", "offer", "window", "send", "call", "receive", "access", "unmap", "tick", "state",
        "register", "outcome", "value", "sender", "mapping", "heirs", "waiting", "word"
    };
    private static final Due due = new Due("ObjectsTest");

    public static void main(String[] args) {
        String[] lives = {
            Texts.ALL_STATES + Texts.everything(), Texts.MIXED + Texts.MEETINGS + Texts.everything(),
            Texts.EIGHT_THREADS + Texts.MEETINGS, Texts.chain(12) + Texts.everything(),
            "9 x tick()\n" + Texts.MIXED + "5 x tick()"
        };
        for (String first : lives) {
            for (String second : lives) {
                besideEachOther(new Script(first), new Script(second));
            }
            newBesideUsed(new Script(first));
        }
        for (int seed = 0; seed < 5; seed++) {
            longLife(new Random(seed));
        }
        due.end();
    }

    /** Two objects whose calls take turns answer as they do alone. */
    private static void besideEachOther(Script first, Script second) {
        long[] firstAlone = first.answers(new PagerKernel());
        long[] secondAlone = second.answers(new PagerKernel());
        PagerKernel x = new PagerKernel();
        PagerKernel y = new PagerKernel();
        for (int n = 0; n < Math.max(firstAlone.length, secondAlone.length); n++) {
            if (n < firstAlone.length) {
                due.is("beside another, " + first.calls().get(n), first.calls().get(n).answer(x), firstAlone[n]);
            }
            if (n < secondAlone.length) {
                due.is("beside another, " + second.calls().get(n), second.calls().get(n).answer(y), secondAlone[n]);
            }
        }
    }

    /** An object is new though another has been used, and making it leaves the other as it is. */
    private static void newBesideUsed(Script life) {
        Script everything = new Script(Texts.everything());
        long[] atFirst = everything.answers(new PagerKernel());
        long[] alone = life.answers(new PagerKernel());
        PagerKernel used = new PagerKernel();
        PagerKernel fresh = new PagerKernel();
        for (int n = 0; n < alone.length; n++) {
            due.is("beside new objects, " + life.calls().get(n), life.calls().get(n).answer(used), alone[n]);
            fresh = new PagerKernel();
        }
        long[] got = everything.answers(fresh);
        for (int n = 0; n < atFirst.length; n++) {
            due.is("a new object beside a used one, " + everything.calls().get(n), got[n], atFirst[n]);
        }
    }

    /** What is answered is free behind the 512th call, but an answer there is. */
    private static void longLife(Random random) {
        PagerKernel x = new PagerKernel();
        for (int n = 1; n <= CALLS_OF_A_LONG_LIFE; n++) {
            int[] args = new int[4];
            for (int k = 0; k < args.length; k++) {
                args[k] = random.nextInt(20) == 0 ? STRANGE[random.nextInt(STRANGE.length)] : random.nextInt(9) - 1;
            }
            Script.Call call = new Script.Call(NAMES[random.nextInt(NAMES.length)], args, null);
            try {
                call.answer(x);
            } catch (RuntimeException thrown) {
                due.no("call " + n + ", " + call + ", threw " + thrown + ";", true);
                return;
            }
        }
        due.yes("a long life has an end", true);
    }
}
