import java.util.ArrayList;
import java.util.Arrays;
import java.util.List;

/**
 * The document's words once more, in another form than the program's: mappings are objects that
 * know their children, and threads that wait stand in a list in the order in which they came.
 */
final class KernelModel {
    private static final class Mapping {
        int frame;
        int level;
        int depth;
        Mapping parent;
        final List<Mapping> children = new ArrayList<>();
        int space;
        int page;
    }

    private static final class Actor {
        int number;
        int space;
        Actor pager;
        int[] registers = new int[4];
        int[] offer;
        boolean grant;
        int window = -1;
        int outcome;
        int sender = -1;
        int value;
        int count;
        int state;
        Actor other;
        int end = Integer.MAX_VALUE;
        int page;
        boolean store;
        int written;
    }

    private final Actor[] actors = new Actor[8];
    private final Mapping[][] pages = new Mapping[6][16];
    private final int[] words = new int[16];
    private final List<Actor> line = new ArrayList<>();
    private int now = 0;

    KernelModel() {
        actors[0] = new Actor();
        for (int k = 0; k < 16; k++) {
            Mapping m = new Mapping();
            m.frame = k;
            m.level = 2;
            put(m, 0, k);
        }
    }

    private void put(Mapping m, int space, int page) {
        m.space = space;
        m.page = page;
        pages[space][page] = m;
    }

    private Actor actor(int t) {
        return t < 0 || t > 7 ? null : actors[t];
    }

    private Actor running(int t) {
        Actor a = actor(t);
        return a == null || a.state != 0 ? null : a;
    }

    private static boolean within(int x, int least, int greatest) {
        return least <= x && x <= greatest;
    }

    int spawn(int space, int pager) {
        if (!within(space, 0, 5) || (pager != -1 && actor(pager) == null)) {
            return -1;
        }
        int t = Arrays.asList(actors).indexOf(null);
        if (t >= 0) {
            actors[t] = new Actor();
            actors[t].number = t;
            actors[t].space = space;
            actors[t].pager = actor(pager);
        }
        return t;
    }

    boolean delete(int t) {
        Actor gone = actor(t);
        if (t == 0 || gone == null) {
            return false;
        }
        actors[t] = null;
        line.remove(gone);
        for (Actor a : actors) {
            if (a != null && within(a.state, 1, 3) && a.other == gone) {
                wake(a, 2);
            }
            if (a != null && a.pager == gone) {
                a.pager = null;
                if (a.state == 4 || a.state == 5) {
                    line.remove(a);
                    a.state = 6;
                }
            }
        }
        return true;
    }

    private void wake(Actor a, int outcome) {
        line.remove(a);
        a.state = 0;
        a.outcome = outcome;
        a.end = Integer.MAX_VALUE;
    }

    boolean load(int t, int k, int v) {
        Actor a = running(t);
        if (a == null || !within(k, 0, 3)) {
            return false;
        }
        a.registers[k] = v;
        return true;
    }

    boolean offer(int t, int p, int level, boolean grant) {
        Actor a = running(t);
        if (a == null || !within(p, -1, 15) || (p != -1 && !within(level, 1, 2))) {
            return false;
        }
        a.offer = p == -1 ? null : new int[] {p, level};
        a.grant = grant;
        return true;
    }

    boolean window(int t, int p) {
        Actor a = running(t);
        if (a == null || !within(p, -1, 15)) {
            return false;
        }
        a.window = p;
        return true;
    }

    int send(int t, int to, int limit) {
        return meet(t, to, limit, 1);
    }

    int call(int t, int to, int limit) {
        return meet(t, to, limit, 3);
    }

    private int meet(int t, int to, int limit, int kind) {
        Actor s = running(t);
        Actor r = actor(to);
        if (s == null || r == null || s == r || !within(limit, -1, 100)) {
            return -1;
        }
        if (receives(r, s) || (r.state == 5 && r.other == s)) {
            message(s, r, kind);
            return kind == 1 ? 0 : 1;
        }
        return await(s, kind, r, limit);
    }

    private static boolean receives(Actor r, Actor s) {
        return r.state == 2 && (r.other == null || r.other == s);
    }

    private int await(Actor a, int state, Actor other, int limit) {
        if (limit == 0) {
            a.outcome = 1;
            return 2;
        }
        a.state = state;
        a.other = other;
        a.end = limit == -1 ? Integer.MAX_VALUE : now + limit;
        if (state != 2) {
            line.add(a);
        }
        return 1;
    }

    int receive(int t, int from, int limit) {
        Actor r = running(t);
        if (r == null || from == t || (from != -1 && actor(from) == null) || !within(limit, -1, 100)) {
            return -1;
        }
        for (Actor s : line) {
            if (s.other == r && (from == -1 || s.number == from)) {
                line.remove(s);
                r.state = 2;
                message(s, r, s.state);
                return 0;
            }
        }
        return await(r, 2, actor(from), limit);
    }

    /** The message in the document's four steps; kind is the state in which s sends. */
    private void message(Actor s, Actor r, int kind) {
        boolean rests = r.state == 5;
        int[] sent = kind == 4 ? new int[] {s.page, s.store ? 2 : 1, 0, 0} : s.registers.clone();
        if (!rests) {
            r.registers = sent;
            r.sender = s.number;
            r.count++;
        }
        if (kind != 4) {
            int window = rests ? r.page : r.window;
            if (s.offer != null && window != -1) {
                handOn(s, r.space, window);
            }
            s.offer = null;
        }
        if (kind == 1) {
            wake(s, 0);
        } else {
            s.state = kind == 3 ? 2 : 5;
            s.other = r;
            s.end = Integer.MAX_VALUE;
        }
        if (rests) {
            attempt(r);
        } else {
            wake(r, 0);
        }
    }

    private void handOn(Actor s, int space, int page) {
        Mapping m = pages[s.space][s.offer[0]];
        if (m == null || (s.space == space && s.offer[0] == page)) {
            return;
        }
        if (pages[space][page] != null) {
            remove(pages[space][page]);
        }
        if (pages[s.space][s.offer[0]] == null) {
            return;
        }
        if (s.grant) {
            pages[m.space][m.page] = null;
            put(m, space, page);
        } else if (m.depth < 12) {
            Mapping child = new Mapping();
            child.frame = m.frame;
            child.level = Math.min(m.level, s.offer[1]);
            child.depth = m.depth + 1;
            child.parent = m;
            m.children.add(child);
            put(child, space, page);
        }
    }

    private int remove(Mapping m) {
        int count = removeChildren(m);
        pages[m.space][m.page] = null;
        if (m.parent != null) {
            m.parent.children.remove(m);
        }
        return count + 1;
    }

    private int removeChildren(Mapping m) {
        int count = 0;
        while (!m.children.isEmpty()) {
            count += remove(m.children.get(0));
        }
        return count;
    }

    int access(int t, int p, boolean store, int v) {
        Actor a = running(t);
        if (a == null || !within(p, 0, 15)) {
            return -1;
        }
        a.page = p;
        a.store = store;
        a.written = v;
        attempt(a);
        return a.state == 0 ? 0 : a.state == 6 ? 2 : 1;
    }

    private void attempt(Actor a) {
        Mapping m = pages[a.space][a.page];
        if (m != null && (m.level == 2 || !a.store)) {
            if (a.store) {
                words[m.frame] = a.written;
            } else {
                a.value = words[m.frame];
            }
            wake(a, 0);
        } else if (a.pager == null) {
            a.state = 6;
        } else {
            await(a, 4, a.pager, -1);
            if (receives(a.pager, a)) {
                line.remove(a);
                message(a, a.pager, 4);
            }
        }
    }

    int unmap(int t, int p, int level, boolean self) {
        Actor a = running(t);
        if (a == null || !within(p, 0, 15) || !within(level, 1, 2)) {
            return -1;
        }
        Mapping m = pages[a.space][p];
        if (m == null) {
            return 0;
        }
        if (level == 1) {
            return self ? remove(m) : removeChildren(m);
        }
        return lower(m, self);
    }

    private int lower(Mapping m, boolean self) {
        int count = self && m.level == 2 ? 1 : 0;
        m.level = self ? 1 : m.level;
        for (Mapping child : m.children) {
            count += lower(child, true);
        }
        return count;
    }

    int tick() {
        now++;
        int count = 0;
        for (Actor a : actors) {
            if (a != null && a.end <= now) {
                wake(a, 1);
                count++;
            }
        }
        return count;
    }

    int state(int t) {
        return actor(t) == null ? -1 : actor(t).state;
    }

    int register(int t, int k) {
        if (actor(t) == null || !within(k, 0, 4)) {
            return 0;
        }
        return k == 4 ? actor(t).count : actor(t).registers[k];
    }

    int outcome(int t) {
        return actor(t) == null ? -1 : actor(t).outcome;
    }

    int value(int t) {
        return actor(t) == null ? 0 : actor(t).value;
    }

    int sender(int t) {
        return actor(t) == null ? -1 : actor(t).sender;
    }

    private Mapping at(int space, int p) {
        return within(space, 0, 5) && within(p, 0, 15) ? pages[space][p] : null;
    }

    int mapping(int space, int p) {
        Mapping m = at(space, p);
        return m == null ? -1 : 1000 * m.depth + 10 * m.frame + m.level;
    }

    int heirs(int space, int p) {
        return at(space, p) == null ? -1 : descendants(at(space, p));
    }

    private static int descendants(Mapping m) {
        int count = m.children.size();
        for (Mapping child : m.children) {
            count += descendants(child);
        }
        return count;
    }

    int waiting(int t) {
        if (actor(t) == null) {
            return -1;
        }
        int count = 0;
        for (Actor a : line) {
            count += a.other == actor(t) ? 1 : 0;
        }
        return count;
    }

    int word(int frame) {
        return within(frame, 0, 15) ? words[frame] : 0;
    }
}
