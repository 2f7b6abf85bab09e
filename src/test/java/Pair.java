import java.util.ArrayList;
import java.util.Arrays;
import java.util.List;

/**
 * The class and the model side by side: each call goes to both, and their answers must be alike. No object of the class
 * is used for more calls than it is promised for: one that is used up gives way to a new one, on which all calls that
 * change something are made again.
 */
final class Pair {
    private static final int MOST_CALLS = 512;
    private static final int MOST_CHANGES = 400;

    interface Call {
        long on(SearchCluster x);
    }

    interface ModelCall {
        long on(Model m);
    }

    final Model m = new Model();
    final String name;
    int wrong;
    private final boolean beyond;
    private final List<Call> changes = new ArrayList<>();
    private final List<String> said = new ArrayList<>();
    private SearchCluster object = new SearchCluster();
    private int used;

    Pair(String name) {
        this(name, false);
    }

    /** With beyond, one object is used for all calls, and for more than are promised. */
    Pair(String name, boolean beyond) {
        this.name = name;
        this.beyond = beyond;
    }

    /** The class's object, for one call that changes nothing. */
    SearchCluster x() {
        if (used >= MOST_CALLS && !beyond) {
            object = new SearchCluster();
            used = 0;
            for (Call change : changes) {
                answerOf(change);
            }
        }
        used++;
        return object;
    }

    private void answerOf(Call change) {
        used++;
        try {
            change.on(object);
        } catch (RuntimeException e) {
            // what it threw was compared when it was made for the first time
        }
    }

    int changes() {
        return changes.size();
    }

    /** Whether no more calls are taken that change something, so that there is room for those that ask. */
    boolean full() {
        return changes.size() >= MOST_CHANGES && !beyond;
    }

    // ---- calls that change something

    long make(int n, int s, int c) {
        return both("make", q -> q.make(n, s, c), q -> q.make(n, s, c), n, s, c);
    }

    void write(String text) {
        for (int i = 0; i < text.length(); i += 8) {
            int many = Math.min(8, text.length() - i);
            long octets = 0;
            for (int k = many - 1; k >= 0; k--) {
                octets = octets << 8 | text.charAt(i + k) & 255;
            }
            draft(many, octets);
        }
        said.add("the draft: " + text);
    }

    long draft(int many, long octets) {
        return change(q -> q.draft(many, octets), q -> q.draft(many, octets), "draft", many);
    }

    long put(int node, int document) {
        return both("put", q -> q.put(node, document), q -> q.put(node, document), node, document);
    }

    long put(int node, int document, String text) {
        write(text);
        return put(node, document);
    }

    long drop(int node, int document) {
        return both("drop", q -> q.drop(node, document), q -> q.drop(node, document), node, document);
    }

    long refresh(int node, int shard) {
        return both("refresh", q -> q.refresh(node, shard), q -> q.refresh(node, shard), node, shard);
    }

    long find(int node, int many) {
        return both("find", q -> q.find(node, many), q -> q.find(node, many), node, many);
    }

    long find(int node, int many, String question) {
        write(question);
        return find(node, many);
    }

    long deliver(int from, int to) {
        return both("deliver", q -> q.deliver(from, to), q -> q.deliver(from, to), from, to);
    }

    long lose(int from, int to) {
        return both("lose", q -> q.lose(from, to), q -> q.lose(from, to), from, to);
    }

    long tick() {
        return both("tick", q -> q.tick(), q -> q.tick());
    }

    long run(int times) {
        return both("run", q -> q.run(times), q -> q.run(times), times);
    }

    long down(int node) {
        return both("down", q -> q.down(node), q -> q.down(node), node);
    }

    long start(int node) {
        return both("start", q -> q.start(node) ? 1 : 0, q -> q.start(node) ? 1 : 0, node);
    }

    void fail(int node, int blocks, int k) {
        both("fail", q -> {
            q.fail(node, blocks, k);
            return 0;
        }, q -> {
            q.fail(node, blocks, k);
            return 0;
        }, node, blocks, k);
    }

    void startAll() {
        for (int node = 0; node <= m.n; node++) {
            if (!m.up(node)) {
                start(node);
            }
        }
    }

    private long both(String call, Call onClass, ModelCall onModel, int... arguments) {
        if (!full()) {
            said.add(call + Arrays.toString(arguments));
        }
        return change(onClass, onModel, call, arguments);
    }

    private long change(Call onClass, ModelCall onModel, String call, int... arguments) {
        if (full()) {
            return 0;
        }
        long answer = compare(call, onClass, onModel, arguments);
        changes.add(onClass);
        return answer;
    }

    /** What both answer; 0 if they throw the same. */
    long compare(String call, Call onClass, ModelCall onModel, int... arguments) {
        if (wrong != 0) {
            return 0;
        }
        long got = 0;
        long due = 0;
        Class<?> thrown = null;
        Class<?> dueThrown = null;
        SearchCluster asked = x();
        try {
            got = onClass.on(asked);
        } catch (RuntimeException e) {
            thrown = e.getClass();
        }
        try {
            due = onModel.on(m);
        } catch (IndexOutOfBoundsException | IllegalArgumentException | IllegalStateException e) {
            dueThrown = e.getClass();
        }
        if (got != due || thrown != dueThrown) {
            wrong = 1;
            System.out.println(name + ": " + call + Arrays.toString(arguments) + " answered " + got + " " + thrown
                    + ", the model " + due + " " + dueThrown);
            for (int i = Math.max(0, said.size() - 12); i < said.size(); i++) {
                System.out.println("    call " + i + ": " + said.get(i));
            }
        }
        return due;
    }

    // ---- how the cluster stands

    boolean holds(int node, int shard) {
        return node < m.n && Math.floorMod(node - shard, m.n) < m.c;
    }

    void compareAll() {
        compareCounts(1);
        for (int node = 0; node <= m.n; node++) {
            for (int shard = 0; shard < m.s; shard++) {
                compareCopy(node, shard, 1);
                for (int o = -1; o <= m.n; o++) {
                    compareOther(node, shard, o, 1);
                }
                for (int number = -1; number < 70 && holds(node, shard); number++) {
                    compareAct(node, shard, number);
                }
            }
            for (int to = 0; to <= m.n; to++) {
                for (int i = 0; i <= m.link(node, to); i++) {
                    compareMessage(node, to, i, 0);
                }
            }
        }
        for (int r = 0; r <= m.told(1); r++) {
            compareRequest(r, 1);
        }
        compareDisks();
        compareSegments();
    }

    /** With beyond 1, what lies just outside is asked for, too. */
    void compareCounts(int beyond) {
        for (int i = -beyond; i <= 6 + beyond; i++) {
            int what = i;
            compare("told", q -> q.told(what), q -> q.told(what), what);
        }
        for (int i = 0; i < m.n + 1 + beyond; i++) {
            int node = i;
            compare("up", q -> q.up(node) ? 1 : 0, q -> q.up(node) ? 1 : 0, node);
        }
    }

    void compareCopy(int node, int shard, int beyond) {
        for (int w = -beyond; w <= 3 + beyond && (node == m.n || beyond == 1 || holds(node, shard)); w++) {
            int what = w;
            compare("view", q -> q.view(node, shard, what), q -> q.view(node, shard, what), node, shard, what);
        }
        for (int w = -beyond; w <= 8 + beyond && (beyond == 1 || holds(node, shard)); w++) {
            int what = w;
            compare("copy", q -> q.copy(node, shard, what), q -> q.copy(node, shard, what), node, shard, what);
        }
    }

    void compareOther(int node, int shard, int o, int beyond) {
        for (int w = -beyond; w <= 3 + beyond; w++) {
            int what = w;
            compare("other", q -> q.other(node, shard, o, what), q -> q.other(node, shard, o, what),
                    node, shard, o, what);
        }
    }

    void compareAct(int node, int shard, int number) {
        compare("act", q -> q.act(node, shard, number), q -> q.act(node, shard, number), node, shard, number);
    }

    void compareMessage(int from, int to, int i, int beyond) {
        compare("link", q -> q.link(from, to), q -> q.link(from, to), from, to);
        for (int w = -beyond; w <= 5 + beyond; w++) {
            int what = w;
            compare("message", q -> q.message(from, to, i, what), q -> q.message(from, to, i, what), from, to, i, what);
        }
    }

    void compareRequest(int r, int beyond) {
        for (int w = -beyond; w <= 5 + beyond; w++) {
            int what = w;
            compare("request", q -> q.request(r, what), q -> q.request(r, what), r, what);
        }
        int hits = r < m.told(1) ? m.request(r, 5) : 0;
        for (int k = -beyond; k < hits + beyond; k++) {
            int h = k;
            compare("hit", q -> q.hit(r, h, 0), q -> q.hit(r, h, 0), r, h, 0);
            compare("hit", q -> q.hit(r, h, 1), q -> q.hit(r, h, 1), r, h, 1);
        }
    }

    void compareDocument(int node, int document, int beyond) {
        for (int w = -beyond; w <= 2 + beyond; w++) {
            int what = w;
            compare("document", q -> q.document(node, document, what), q -> q.document(node, document, what),
                    node, document, what);
        }
    }

    void compareDisks() {
        for (int node = 0; node <= m.n; node++) {
            for (int shard = 0; shard < m.s; shard++) {
                compareDisk(node, shard);
            }
            for (int d = 0; d < 100; d++) {
                if (holds(node, d % m.s)) {
                    compareDocument(node, d, 0);
                }
            }
        }
    }

    /** All of each BLOCK in which something is, and an octet of each other one. */
    void compareDisk(int node, int shard) {
        if (!holds(node, shard) && (node != m.n || shard > 0)) {
            compareOctet(node, shard, 0, 0);
            return;
        }
        for (int block = 0; block < 202; block++) {
            boolean empty = true;
            for (int i = 0; i < 64; i++) {
                empty &= m.disk(node, shard, block, i) == 0;
            }
            for (int i = empty ? block % 64 : 0; i < (empty ? block % 64 + 1 : 64); i++) {
                compareOctet(node, shard, block, i);
            }
        }
    }

    private void compareOctet(int node, int shard, int block, int i) {
        compare("disk", q -> q.disk(node, shard, block, i), q -> q.disk(node, shard, block, i), node, shard, block, i);
    }

    void compareSegments() {
        for (int i = 0; i <= m.n; i++) {
            int node = i;
            for (int k = 0; k < m.s; k++) {
                int shard = k;
                for (int l = 0; l <= (holds(node, shard) ? 4 : 0); l++) {
                    compareSegment(node, shard, l);
                }
            }
        }
    }

    void compareSegment(int node, int shard, int g) {
        for (int w = -1; w <= 3; w++) {
            int what = w;
            compare("segment", q -> q.segment(node, shard, g, what), q -> q.segment(node, shard, g, what),
                    node, shard, g, what);
        }
        byte[] octets = m.octetsOf(node, shard, g);
        for (int k = -1; k <= octets.length; k++) {
            int at = k;
            if (at < 0 || at == octets.length) {
                compare("octet", q -> q.octet(node, shard, g, at), q -> q.octet(node, shard, g, at),
                        node, shard, g, at);
            } else {
                compare("octet", q -> q.octet(node, shard, g, at), q -> octets[at] & 255, node, shard, g, at);
            }
        }
    }
}
