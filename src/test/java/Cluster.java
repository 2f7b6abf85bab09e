/** A SearchCluster for tests: counts its calls, for more than 512 are promised nothing, and has short cuts. */
final class Cluster {
    private static final int MOST_CALLS = 512;

    private final SearchCluster inside = new SearchCluster();
    private int calls;

    /** As a new object is. */
    Cluster() {
    }

    Cluster(int n, int s, int c) {
        make(n, s, c);
    }

    private SearchCluster called() {
        calls++;
        if (calls > MOST_CALLS) {
            throw new AssertionError("a test makes more than " + MOST_CALLS + " calls of one object");
        }
        return inside;
    }

    // ---- the face

    int make(int n, int s, int c) {
        return called().make(n, s, c);
    }

    int draft(int n, long octets) {
        return called().draft(n, octets);
    }

    int put(int node, int document) {
        return called().put(node, document);
    }

    int drop(int node, int document) {
        return called().drop(node, document);
    }

    int refresh(int node, int shard) {
        return called().refresh(node, shard);
    }

    int find(int node, int many) {
        return called().find(node, many);
    }

    int request(int r, int what) {
        return called().request(r, what);
    }

    int hit(int r, int i, int what) {
        return called().hit(r, i, what);
    }

    int link(int from, int to) {
        return called().link(from, to);
    }

    int message(int from, int to, int i, int what) {
        return called().message(from, to, i, what);
    }

    int deliver(int from, int to) {
        return called().deliver(from, to);
    }

    int lose(int from, int to) {
        return called().lose(from, to);
    }

    int tick() {
        return called().tick();
    }

    int run(int times) {
        return called().run(times);
    }

    /** 1 for UP, 0 for DOWN. */
    int up(int node) {
        return called().up(node) ? 1 : 0;
    }

    int down(int node) {
        return called().down(node);
    }

    int start(int node) {
        return called().start(node) ? 1 : 0;
    }

    int fail(int node, int m, int k) {
        called().fail(node, m, k);
        return 0;
    }

    int copy(int node, int shard, int what) {
        return called().copy(node, shard, what);
    }

    int other(int node, int shard, int x, int what) {
        return called().other(node, shard, x, what);
    }

    int view(int node, int shard, int what) {
        return called().view(node, shard, what);
    }

    int document(int node, int document, int what) {
        return called().document(node, document, what);
    }

    int act(int node, int shard, int number) {
        return called().act(node, shard, number);
    }

    int disk(int node, int shard, int block, int i) {
        return called().disk(node, shard, block, i);
    }

    int segment(int node, int shard, int g, int what) {
        return called().segment(node, shard, g, what);
    }

    int octet(int node, int shard, int g, int i) {
        return called().octet(node, shard, g, i);
    }

    int told(int what) {
        return called().told(what);
    }

    // ---- short cuts

    /** THE DRAFT gets a text; answers how many octets it has then. */
    int write(String text) {
        int size = 0;
        for (int i = 0; i < text.length(); i += 8) {
            int many = Math.min(8, text.length() - i);
            long octets = 0;
            for (int k = many - 1; k >= 0; k--) {
                octets = octets << 8 | text.charAt(i + k) & 255;
            }
            size = draft(many, octets);
        }
        return size;
    }

    int put(int node, int document, String text) {
        write(text);
        return put(node, document);
    }

    int find(int node, int many, String question) {
        write(question);
        return find(node, many);
    }

    /** PUTS of empty texts to documents 0, 1, ..: one call each. */
    void puts(int node, int many) {
        for (int i = 0; i < many; i++) {
            put(node, i);
        }
    }

    void ticks(int many) {
        for (int i = 0; i < many; i++) {
            tick();
        }
    }

    void deliver(int from, int to, int many) {
        for (int i = 0; i < many; i++) {
            deliver(from, to);
        }
    }

    /** All that is on a LINK now is DELIVERED. */
    void drain(int from, int to) {
        deliver(from, to, link(from, to));
    }

    void clear(int from, int to) {
        for (int left = link(from, to); left > 0; left--) {
            lose(from, to);
        }
    }

    /** TICKS, behind each of which all that these nodes SENT to THE KEEPER is DELIVERED. */
    void ticksHeard(int many, int keeper, int... nodes) {
        for (int i = 0; i < many; i++) {
            tick();
            for (int node : nodes) {
                drain(node, keeper);
            }
        }
    }

    /** A REQUEST's ROUTE and its MAP are DELIVERED, then what its host SENDS to a node. */
    void ask(int host, int keeper, int to) {
        deliver(host, keeper);
        deliver(keeper, host);
        deliver(host, to);
    }

    /** The kinds of the MESSAGES on a LINK. */
    String kinds(int from, int to) {
        StringBuilder kinds = new StringBuilder();
        int many = link(from, to);
        for (int i = 0; i < many; i++) {
            kinds.append(i == 0 ? "" : " ").append(message(from, to, i, 0));
        }
        return kinds.toString();
    }

    /** A MESSAGE's kind and its five numbers. */
    String message(int from, int to, int i) {
        StringBuilder all = new StringBuilder();
        for (int what = 0; what <= 5; what++) {
            all.append(what == 0 ? "" : " ").append(message(from, to, i, what));
        }
        return all.toString();
    }

    /** The last MESSAGE of a LINK. */
    String newest(int from, int to) {
        int many = link(from, to);
        return many == 0 ? "nothing" : message(from, to, many - 1);
    }

    /** TERM, BASE, LAST, SURE, SHOWN, ROLE. */
    String copy(int node, int shard) {
        StringBuilder all = new StringBuilder();
        for (int what = 0; what <= 5; what++) {
            all.append(what == 0 ? "" : " ").append(copy(node, shard, what));
        }
        return all.toString();
    }

    /** STATE, HAS, SAW, COUNT. */
    String other(int node, int shard, int x) {
        return other(node, shard, x, 0) + " " + other(node, shard, x, 1) + " " + other(node, shard, x, 2) + " "
                + other(node, shard, x, 3);
    }

    /** TERM, primary, MASK, VERSION. */
    String view(int node, int shard) {
        return view(node, shard, 0) + " " + view(node, shard, 1) + " " + view(node, shard, 2) + " "
                + view(node, shard, 3);
    }

    /** Octets of a HALF. */
    String octets(int node, int shard, int half, int from, int many) {
        StringBuilder all = new StringBuilder();
        for (int at = from; at < from + many; at++) {
            all.append(at == from ? "" : " ").append(disk(node, shard, 2 + 100 * half + at / 64, at % 64));
        }
        return all.toString();
    }

    /** All octets of a SEGMENT. */
    String segment(int node, int shard, int g) {
        StringBuilder all = new StringBuilder();
        int size = segment(node, shard, g, 2);
        for (int i = 0; i < size; i++) {
            all.append(i == 0 ? "" : " ").append(octet(node, shard, g, i));
        }
        return all.toString();
    }

    /** What a FIND tells: each document and its SCORE. */
    String hits(int r) {
        StringBuilder all = new StringBuilder();
        int many = request(r, 5);
        for (int i = 0; i < many; i++) {
            all.append(i == 0 ? "" : " ").append(hit(r, i, 0)).append(":").append(hit(r, i, 1));
        }
        return all.toString();
    }
}
