import java.util.ArrayList;
import java.util.Arrays;
import java.util.List;

/** The class and the model side by side: each call goes to both, and their answers must be alike. */
final class Pair {
    interface Call {
        long on(SearchCluster x);
    }

    interface ModelCall {
        long on(Model m);
    }

    final SearchCluster x = new SearchCluster();
    final Model m = new Model();
    final String name;
    int calls;
    int wrong;
    private final List<String> said = new ArrayList<>();

    Pair(String name) {
        this.name = name;
    }

    // ---- calls that change something

    long make(int n, int s, int c) {
        return both("make", q -> q.make(n, s, c), q -> q.make(n, s, c), n, s, c);
    }

    void write(String text) {
        for (int i = 0; i < text.length(); i += 8) {
            int many = Math.min(8, text.length() - i);
            long octets = 0;
            for (int k = many - 1; k >= 0; k--) {
                octets = octets << 8 | text.charAt(i + k) & 255;
            }
            draft(many, octets);
        }
        said.add("the draft: " + text);
    }

    long draft(int many, long octets) {
        return compare("draft", q -> q.draft(many, octets), q -> q.draft(many, octets), many);
    }

    long put(int node, int document) {
        return both("put", q -> q.put(node, document), q -> q.put(node, document), node, document);
    }

    long put(int node, int document, String text) {
        write(text);
        return put(node, document);
    }

    long drop(int node, int document) {
        return both("drop", q -> q.drop(node, document), q -> q.drop(node, document), node, document);
    }

    long refresh(int node, int shard) {
        return both("refresh", q -> q.refresh(node, shard), q -> q.refresh(node, shard), node, shard);
    }

    long find(int node, int many) {
        return both("find", q -> q.find(node, many), q -> q.find(node, many), node, many);
    }

    long find(int node, int many, String question) {
        write(question);
        return find(node, many);
    }

    long deliver(int from, int to) {
        return both("deliver", q -> q.deliver(from, to), q -> q.deliver(from, to), from, to);
    }

    long lose(int from, int to) {
        return both("lose", q -> q.lose(from, to), q -> q.lose(from, to), from, to);
    }

    long tick() {
        return both("tick", q -> q.tick(), q -> q.tick());
    }

    long run(int times) {
        return both("run", q -> q.run(times), q -> q.run(times), times);
    }

    long down(int node) {
        return both("down", q -> q.down(node), q -> q.down(node), node);
    }

    long start(int node) {
        return both("start", q -> q.start(node) ? 1 : 0, q -> q.start(node) ? 1 : 0, node);
    }

    void fail(int node, int blocks, int k) {
        both("fail", q -> {
            q.fail(node, blocks, k);
            return 0;
        }, q -> {
            q.fail(node, blocks, k);
            return 0;
        }, node, blocks, k);
    }

    void startAll() {
        for (int node = 0; node <= m.n; node++) {
            if (!m.up(node)) {
                start(node);
            }
        }
    }

    private long both(String call, Call onClass, ModelCall onModel, int... arguments) {
        calls++;
        said.add(call + Arrays.toString(arguments));
        return compare(call, onClass, onModel, arguments);
    }

    /** What both answer; 0 if they throw the same. */
    long compare(String call, Call onClass, ModelCall onModel, int... arguments) {
        if (wrong != 0) {
            return 0;
        }
        long got = 0;
        long due = 0;
        Class<?> thrown = null;
        Class<?> dueThrown = null;
        try {
            got = onClass.on(x);
        } catch (RuntimeException e) {
            thrown = e.getClass();
        }
        try {
            due = onModel.on(m);
        } catch (IndexOutOfBoundsException | IllegalArgumentException | IllegalStateException e) {
            dueThrown = e.getClass();
        }
        if (got != due || thrown != dueThrown) {
            wrong = 1;
            System.out.println(name + ": " + call + Arrays.toString(arguments) + " answered " + got + " " + thrown
                    + ", the model " + due + " " + dueThrown);
            for (int i = Math.max(0, said.size() - 12); i < said.size(); i++) {
                System.out.println("    call " + i + ": " + said.get(i));
            }
        }
        return due;
    }

    // ---- how the cluster stands

    boolean holds(int node, int shard) {
        return node < m.n && Math.floorMod(node - shard, m.n) < m.c;
    }

    void compareAll() {
        compareCounts(1);
        for (int node = 0; node <= m.n; node++) {
            for (int shard = 0; shard < m.s; shard++) {
                compareCopy(node, shard, 1);
                for (int o = -1; o <= m.n; o++) {
                    compareOther(node, shard, o, 1);
                }
                for (int number = -1; number < 70 && holds(node, shard); number++) {
                    compareAct(node, shard, number);
                }
            }
            for (int to = 0; to <= m.n; to++) {
                for (int i = 0; i <= m.link(node, to); i++) {
                    compareMessage(node, to, i, 0);
                }
            }
        }
        for (int r = 0; r <= m.told(1); r++) {
            compareRequest(r, 1);
        }
        compareDisks();
        compareSegments();
    }

    /** With beyond 1, what lies just outside is asked for, too. */
    void compareCounts(int beyond) {
        for (int i = -beyond; i <= 6 + beyond; i++) {
            int what = i;
            compare("told", q -> q.told(what), q -> q.told(what), what);
        }
        for (int i = 0; i < m.n + 1 + beyond; i++) {
            int node = i;
            compare("up", q -> q.up(node) ? 1 : 0, q -> q.up(node) ? 1 : 0, node);
        }
    }

    void compareCopy(int node, int shard, int beyond) {
        for (int w = -beyond; w <= 3 + beyond && (node == m.n || beyond == 1 || holds(node, shard)); w++) {
            int what = w;
            compare("view", q -> q.view(node, shard, what), q -> q.view(node, shard, what), node, shard, what);
        }
        for (int w = -beyond; w <= 8 + beyond && (beyond == 1 || holds(node, shard)); w++) {
            int what = w;
            compare("copy", q -> q.copy(node, shard, what), q -> q.copy(node, shard, what), node, shard, what);
        }
    }

    void compareOther(int node, int shard, int o, int beyond) {
        for (int w = -beyond; w <= 3 + beyond; w++) {
            int what = w;
            compare("other", q -> q.other(node, shard, o, what), q -> q.other(node, shard, o, what),
                    node, shard, o, what);
        }
    }

    void compareAct(int node, int shard, int number) {
        compare("act", q -> q.act(node, shard, number), q -> q.act(node, shard, number), node, shard, number);
    }

    void compareMessage(int from, int to, int i, int beyond) {
        compare("link", q -> q.link(from, to), q -> q.link(from, to), from, to);
        for (int w = -beyond; w <= 5 + beyond; w++) {
            int what = w;
            compare("message", q -> q.message(from, to, i, what), q -> q.message(from, to, i, what), from, to, i, what);
        }
    }

    void compareRequest(int r, int beyond) {
        for (int w = -beyond; w <= 5 + beyond; w++) {
            int what = w;
            compare("request", q -> q.request(r, what), q -> q.request(r, what), r, what);
        }
        int hits = r < m.told(1) ? m.request(r, 5) : 0;
        for (int k = -beyond; k < hits + beyond; k++) {
            int h = k;
            compare("hit", q -> q.hit(r, h, 0), q -> q.hit(r, h, 0), r, h, 0);
            compare("hit", q -> q.hit(r, h, 1), q -> q.hit(r, h, 1), r, h, 1);
        }
    }

    void compareDocument(int node, int document, int beyond) {
        for (int w = -beyond; w <= 2 + beyond; w++) {
            int what = w;
            compare("document", q -> q.document(node, document, what), q -> q.document(node, document, what),
                    node, document, what);
        }
    }

    void compareDisks() {
        for (int i = 0; i <= m.n; i++) {
            int node = i;
            for (int k = 0; k < m.s; k++) {
                int shard = k;
                int octets = holds(node, shard) || node == m.n && shard == 0 ? 202 * 64 : 1;
                for (int at = 0; at < octets; at++) {
                    int block = at / 64;
                    int octet = at % 64;
                    compare("disk", q -> q.disk(node, shard, block, octet), q -> q.disk(node, shard, block, octet),
                            node, shard, block, octet);
                }
            }
            for (int d = 0; d < 100; d++) {
                if (holds(node, d % m.s)) {
                    compareDocument(node, d, 0);
                }
            }
        }
    }

    void compareSegments() {
        for (int i = 0; i <= m.n; i++) {
            int node = i;
            for (int k = 0; k < m.s; k++) {
                int shard = k;
                for (int l = 0; l <= (holds(node, shard) ? 4 : 0); l++) {
                    compareSegment(node, shard, l);
                }
            }
        }
    }

    private void compareSegment(int node, int shard, int g) {
        for (int w = -1; w <= 3; w++) {
            int what = w;
            compare("segment", q -> q.segment(node, shard, g, what), q -> q.segment(node, shard, g, what),
                    node, shard, g, what);
        }
        byte[] octets = m.octetsOf(node, shard, g);
        for (int k = -1; k <= octets.length; k++) {
            int at = k;
            if (at < 0 || at == octets.length) {
                compare("octet", q -> q.octet(node, shard, g, at), q -> q.octet(node, shard, g, at),
                        node, shard, g, at);
            } else {
                compare("octet", q -> q.octet(node, shard, g, at), q -> octets[at] & 255, node, shard, g, at);
            }
        }
    }
}
