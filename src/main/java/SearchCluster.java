import java.util.Arrays;

/**
 * A cluster that searches: shards with copies on several nodes, a keeper, disks that tear, links that lose.
 * The document ../shared/DOC.md tells what each call answers; words in capitals here are the document's.
 */
public final class SearchCluster {
    public static final int NONE = -1;

    private static final int MOST_NODES = 5;
    private static final int MOST_SHARDS = 4;
    private static final int MOST_COPIES = 3;
    private static final int DOCUMENTS = 100;
    private static final int MOST_REQUESTS = 500;
    private static final int MOST_TEXT = 40;
    private static final int MOST_DRAFT = 60;
    private static final int MOST_HITS = 10;
    private static final int MOST_TIMES = 60;
    private static final int MOST_FAIL = 1000;

    // kinds of REQUESTS, and how they stand
    private static final int PUT = 0;
    private static final int DROP = 1;
    private static final int REFRESH = 2;
    private static final int FIND = 3;
    private static final int IS_OPEN = 0;
    private static final int IS_DONE = 1;
    private static final int IS_FAILED = 2;
    private static final int GIVE_UP = 40;
    private static final int TRY_AGAIN = 8;

    // MESSAGES
    private static final int ROUTE = 1;
    private static final int MAP = 2;
    private static final int WRITE = 3;
    private static final int NO = 4;
    private static final int DONE = 5;
    private static final int REPL = 6;
    private static final int ACK = 7;
    private static final int SYNC = 8;
    private static final int WANT = 9;
    private static final int JOIN = 10;
    private static final int ADD = 11;
    private static final int FAIL = 12;
    private static final int OUT = 13;
    private static final int CONFIG = 14;
    private static final int HELLO = 15;
    private static final int BEAT = 16;
    private static final int SHOW = 17;
    private static final int SHOWTO = 18;
    private static final int OPEN = 19;
    private static final int STATS = 20;
    private static final int SCORE = 21;
    private static final int TOP = 22;

    private static final int LINK_SIDE = MOST_NODES + 1;
    private static final int LINK_ROOM = 60;
    // One slot more than a LINK may hold: what is being DELIVERED stays readable while answers fill the LINK.
    private static final int LINK_SLOTS = LINK_ROOM + 1;

    // A MESSAGE's first five numbers are those that message() tells; these are the places of the others.
    private static final int TOLD_NUMBERS = 5;
    private static final int AT_D = 4;
    private static final int AT_T = 5;
    private static final int AT_F = 6;
    private static final int MESSAGE_NUMBERS = 30;
    // SYNC's numbers behind its shard
    private static final int S_TERM = 1;
    private static final int S_BASE = 2;
    private static final int S_SURE = 3;
    private static final int S_LAST = 4;
    private static final int S_SHOWN = 5;

    // DISKS
    private static final int BLOCK = 64;
    private static final int BLOCKS = 202;
    private static final int HALF_BLOCKS = 100;
    private static final int HALF = HALF_BLOCKS * BLOCK;
    private static final int LAST_GENERATION = 250;
    private static final int RECORD_END = 255;
    private static final int RECORD_PUT = 1;
    private static final int RECORD_DROP = 2;
    private static final int RECORD_CUT = 3;
    private static final int RECORD_SHOWN = 4;
    private static final int RECORD_BASE = 5;
    private static final int RECORD_DOCUMENT = 6;
    private static final int RECORD_VIEW = 7;
    // What a RECORD has beside its text: kind, k, its numbers, 255.
    private static final int ACT_SIZE = 12;
    private static final int CUT_SIZE = 7;
    private static final int SHOWN_SIZE = 5;
    private static final int VIEW_SIZE = 10;
    private static final int DONE_OCTETS = 63;

    // COPIES
    private static final int OUTSIDE = 0;
    private static final int FOLLOWER = 1;
    private static final int PRIMARY = 2;
    private static final int JOINING = 1;
    private static final int TRACKED = 2;
    private static final int IN = 3;
    private static final int LEAVING = 4;
    private static final int MOST_ACTS = 512;
    // LAST - BASE never goes beyond 60: an ACT that would make it so FLUSHES first, and SURE is 30 behind at most.
    private static final int MOST_BEHIND_BASE = 64;
    private static final int FLUSH_BEHIND = 60;
    private static final int MOST_UNSURE = 30;
    private static final int MOST_WAITS = 20;
    private static final int REPEAT = 3;
    private static final int PATIENCE = 9;
    private static final int MOST_REPLS = 4;
    private static final int DEAD_AFTER = 8;

    // a VIEW's numbers, in view()'s order
    private static final int V_TERM = 0;
    private static final int V_PRIMARY = 1;
    private static final int V_MASK = 2;
    private static final int V_VERSION = 3;
    private static final int VIEW_NUMBERS = 4;
    private static final int MAP_NUMBERS = 3;

    // SEARCH
    private static final int MOST_SEGMENTS = 4;
    private static final int MOST_WORD = 12;
    private static final int MOST_CLAUSES = 6;
    private static final int MOST_ROWS = 4;
    private static final int PLACES = 32;
    // A WORD is a number of twelve figures to this base, so that numbers stand in the order of the octets.
    private static final long BASE_37 = 37L;
    private static final long HIGHEST_PLACE = 177917621779460413L;
    private static final int STAR_SCORE = 64;
    private static final int MOST_CONTEXTS = 8;
    private static final int CONTEXT_AGE = 12;
    private static final int C_REQUEST = 0;
    private static final int C_ATTEMPT = 1;
    private static final int C_SHARD = 2;
    private static final int C_BORN = 3;
    private static final int C_DOCUMENTS = 4;

    private static final int[] NO_NUMBERS = {};
    private static final long[] NO_WORDS = {};

    private final World world;
    private final Node[] nodes;
    private final Replica[] replicas;
    private final Keeper keeper;
    private final SegmentOctets pressed;
    private final int[] draft;
    private int drafted;

    public SearchCluster() {
        world = new World();
        nodes = new Node[LINK_SIDE];
        for (int x = 0; x < LINK_SIDE; x++) {
            nodes[x] = new Node(world, x);
        }
        replicas = new Replica[MOST_SHARDS * MOST_COPIES];
        for (int i = 0; i < MOST_SHARDS * MOST_COPIES; i++) {
            replicas[i] = new Replica(world);
        }
        keeper = new Keeper(world);
        pressed = new SegmentOctets();
        draft = new int[MOST_DRAFT];
        drafted = 0;
        begin(3, 2, 2);
    }

    public int make(int n, int s, int c) throws IllegalArgumentException {
        if (n < 1 || n > MOST_NODES || s < 1 || s > MOST_SHARDS || c < 1 || c > MOST_COPIES || c > n) {
            throw new IllegalArgumentException("no such cluster");
        }
        begin(n, s, c);
        return s * c;
    }

    public int draft(int n, long octets) throws IllegalArgumentException {
        if (n < 1 || n > 8 || drafted + n > MOST_DRAFT) {
            throw new IllegalArgumentException("no room in the draft");
        }
        for (int i = 0; i < n; i++) {
            draft[drafted] = (int) (octets >>> (8 * i)) & 255;
            drafted++;
        }
        return drafted;
    }

    public int put(int node, int document)
            throws IndexOutOfBoundsException, IllegalArgumentException, IllegalStateException {
        requireHost(node);
        requireDocument(document);
        if (!draftIsText()) {
            throw new IllegalArgumentException("the draft is no text");
        }
        requireReady(node);
        int[] text = Arrays.copyOf(draft, drafted);
        drafted = 0;
        return come(PUT, node, document, text, null);
    }

    public int drop(int node, int document) throws IndexOutOfBoundsException, IllegalStateException {
        requireHost(node);
        requireDocument(document);
        requireReady(node);
        return come(DROP, node, document, NO_NUMBERS, null);
    }

    public int refresh(int node, int shard) throws IndexOutOfBoundsException, IllegalStateException {
        requireHost(node);
        requireShard(shard);
        requireReady(node);
        return come(REFRESH, node, shard, NO_NUMBERS, null);
    }

    public int find(int node, int many)
            throws IndexOutOfBoundsException, IllegalArgumentException, IllegalStateException {
        requireHost(node);
        if (many < 1 || many > MOST_HITS) {
            throw new IllegalArgumentException("no such number of documents");
        }
        requireReady(node);
        Question question = new Question();
        int fault = question.read(draft, drafted);
        drafted = 0;
        if (fault < 0) {
            return fault;
        }
        return come(FIND, node, many, NO_NUMBERS, question);
    }

    public int request(int r, int what) throws IndexOutOfBoundsException {
        Request request = world.requestAt(r);
        if (request == null || what < 0 || what > 5) {
            throw new IndexOutOfBoundsException("no such request");
        }
        switch (what) {
            case 0:
                return request.state;
            case 1:
                return request.kind;
            case 2:
                return request.host;
            case 3:
                return request.attempt;
            case 4:
                return request.came;
            default:
                return request.toldHits();
        }
    }

    public int hit(int r, int i, int what) throws IndexOutOfBoundsException {
        Request request = world.requestAt(r);
        if (request == null || i < 0 || i >= request.toldHits() || what < 0 || what > 1) {
            throw new IndexOutOfBoundsException("no such hit");
        }
        return request.hits[2 * i + what];
    }

    public int link(int from, int to) throws IndexOutOfBoundsException {
        requireLink(from, to);
        return world.held[world.linkOf(from, to)];
    }

    public int message(int from, int to, int i, int what) throws IndexOutOfBoundsException {
        Message message = world.messageAt(from, to, i);
        if (message == null || what < 0 || what > TOLD_NUMBERS) {
            throw new IndexOutOfBoundsException("no such message");
        }
        return what == 0 ? message.kind : message.numbers[what - 1];
    }

    public int deliver(int from, int to) throws IndexOutOfBoundsException {
        requireLink(from, to);
        return pass(from, to);
    }

    public int lose(int from, int to) throws IndexOutOfBoundsException {
        requireLink(from, to);
        Message message = world.take(from, to);
        return message == null ? 0 : message.kind;
    }

    public int tick() {
        pulse();
        return world.now;
    }

    public int run(int times) throws IllegalArgumentException {
        if (times < 0 || times > MOST_TIMES) {
            throw new IllegalArgumentException("no such number of times");
        }
        int before = world.delivered;
        for (int i = 0; i < times; i++) {
            for (int from = 0; from <= world.nodes; from++) {
                for (int to = 0; to <= world.nodes; to++) {
                    int held = world.held[world.linkOf(from, to)];
                    for (int k = 0; k < held; k++) {
                        pass(from, to);
                    }
                }
            }
            pulse();
        }
        return world.delivered - before;
    }

    public boolean up(int node) throws IndexOutOfBoundsException {
        requireNode(node);
        return nodes[node].up;
    }

    public int down(int node) throws IndexOutOfBoundsException {
        requireNode(node);
        return fall(node);
    }

    public boolean start(int node) throws IndexOutOfBoundsException, IllegalStateException {
        requireNode(node);
        if (nodes[node].up) {
            throw new IllegalStateException("the node is up");
        }
        nodes[node].up = true;
        boot(node);
        return nodes[node].up;
    }

    public void fail(int node, int m, int k) throws IndexOutOfBoundsException, IllegalArgumentException {
        requireNode(node);
        if (m < 0 || m > MOST_FAIL || k < 0 || k >= BLOCK) {
            throw new IllegalArgumentException("no such block, or octets");
        }
        nodes[node].failIn = m;
        nodes[node].failKeep = k;
    }

    public int copy(int node, int shard, int what) throws IndexOutOfBoundsException {
        Replica replica = requireReplica(node, shard);
        if (what < 0 || what > 8) {
            throw new IndexOutOfBoundsException("a copy does not tell this");
        }
        if (!nodes[node].up) {
            return NONE;
        }
        return what == 5 ? replica.role : replica.copy.tell(what);
    }

    public int other(int node, int shard, int x, int what) throws IndexOutOfBoundsException {
        Replica replica = requireReplica(node, shard);
        if (!replica.isOther(x) || what < 0 || what > 3) {
            throw new IndexOutOfBoundsException("no such other copy");
        }
        if (!nodes[node].up || replica.role != PRIMARY) {
            return NONE;
        }
        switch (what) {
            case 0:
                return replica.state[x];
            case 1:
                return replica.has[x];
            case 2:
                return replica.saw[x];
            default:
                return replica.counts[x];
        }
    }

    public int view(int node, int shard, int what) throws IndexOutOfBoundsException {
        int[] view;
        if (node == world.nodes) {
            requireShard(shard);
            view = keeper.views[shard];
        } else {
            view = requireReplica(node, shard).view;
        }
        if (what < 0 || what >= VIEW_NUMBERS) {
            throw new IndexOutOfBoundsException("a view does not tell this");
        }
        return nodes[node].up ? view[what] : NONE;
    }

    public int document(int node, int document, int what) throws IndexOutOfBoundsException {
        requireDocument(document);
        Copy copy = requireReplica(node, world.shardOf(document)).copy;
        if (what < 0 || what > 2) {
            throw new IndexOutOfBoundsException("a document does not tell this");
        }
        if (!nodes[node].up) {
            return NONE;
        }
        if (what == 2) {
            return copy.index.shown[document];
        }
        return copy.requestOf(document, what == 0 ? copy.last : copy.sure);
    }

    public int act(int node, int shard, int number) throws IndexOutOfBoundsException {
        Copy copy = requireReplica(node, shard).copy;
        return nodes[node].up ? copy.actAt(number) : NONE;
    }

    public int disk(int node, int shard, int block, int i) throws IndexOutOfBoundsException {
        Disk disk;
        if (node == world.nodes && shard == 0) {
            disk = keeper.disk;
        } else {
            disk = requireReplica(node, shard).copy.disk;
        }
        if (block < 0 || block >= BLOCKS || i < 0 || i >= BLOCK) {
            throw new IndexOutOfBoundsException("no such octet");
        }
        return disk.octets[block * BLOCK + i] & 255;
    }

    public int segment(int node, int shard, int g, int what) throws IndexOutOfBoundsException {
        Index index = requireSegment(node, shard, g);
        if (what < 0 || what > 2) {
            throw new IndexOutOfBoundsException("a segment does not tell this");
        }
        if (what == 0) {
            return index.sizes[g];
        }
        if (what == 1) {
            return index.liveIn(g);
        }
        pressed.write(world, index, g);
        return pressed.size;
    }

    public int octet(int node, int shard, int g, int i) throws IndexOutOfBoundsException {
        Index index = requireSegment(node, shard, g);
        pressed.write(world, index, g);
        if (i < 0 || i >= pressed.size) {
            throw new IndexOutOfBoundsException("no such octet");
        }
        return pressed.octets[i] & 255;
    }

    public int told(int what) throws IndexOutOfBoundsException {
        switch (what) {
            case 0:
                return world.now;
            case 1:
                return world.requestCount;
            case 2:
                return world.onLinks();
            case 3:
                return world.delivered;
            case 4:
                return world.lost;
            case 5:
                return world.written;
            case 6:
                return contextsInUse();
            default:
                throw new IndexOutOfBoundsException("nothing such is told");
        }
    }

    // ======== what calls ask for first

    private void requireNode(int node) {
        if (node < 0 || node > world.nodes) {
            throw new IndexOutOfBoundsException("no such node");
        }
    }

    private void requireHost(int node) {
        if (node < 0 || node >= world.nodes) {
            throw new IndexOutOfBoundsException("no such node");
        }
    }

    private void requireShard(int shard) {
        if (shard < 0 || shard >= world.shards) {
            throw new IndexOutOfBoundsException("no such shard");
        }
    }

    private void requireDocument(int document) {
        if (document < 0 || document >= DOCUMENTS) {
            throw new IndexOutOfBoundsException("no such document");
        }
    }

    private void requireLink(int from, int to) {
        if (world.linkOf(from, to) == NONE) {
            throw new IndexOutOfBoundsException("no such link");
        }
    }

    private void requireReady(int node) {
        if (!nodes[node].up || world.requestCount >= MOST_REQUESTS) {
            throw new IllegalStateException("the node takes no request");
        }
    }

    private Replica requireReplica(int node, int shard) {
        Replica replica = node < 0 || node >= world.nodes ? null : nodes[node].replicaOf(shard);
        if (replica == null) {
            throw new IndexOutOfBoundsException("no such copy");
        }
        return replica;
    }

    private Index requireSegment(int node, int shard, int g) {
        Index index = requireReplica(node, shard).copy.index;
        if (!nodes[node].up || g < 0 || g >= index.count) {
            throw new IndexOutOfBoundsException("no such segment");
        }
        return index;
    }

    private boolean draftIsText() {
        if (drafted > MOST_TEXT) {
            return false;
        }
        for (int i = 0; i < drafted; i++) {
            if (draft[i] < 32 || draft[i] > 126) {
                return false;
            }
        }
        return true;
    }

    // ======== what calls set going

    private void begin(int n, int s, int c) {
        world.begin(n, s, c);
        for (int x = 0; x < LINK_SIDE; x++) {
            nodes[x].begin();
        }
        for (int shard = 0; shard < s; shard++) {
            for (int i = 0; i < c; i++) {
                Node home = nodes[(shard + i) % n];
                Replica replica = replicas[shard * MOST_COPIES + i];
                home.replicas[shard] = replica;
                replica.begin(home, shard);
            }
        }
        keeper.begin(nodes[n]);
        // The first FLUSHES are how DISKS are at first: nobody wrote these BLOCKS.
        world.written = 0;
    }

    private int come(int kind, int node, int item, int[] text, Question question) {
        int r = world.requestCount;
        world.requests[r] = new Request(r, kind, node, item, world.now, text, question);
        world.requestCount++;
        world.send(node, world.nodes, ROUTE).with(r, 0, 0, 0, 0);
        return r;
    }

    private int fall(int node) {
        nodes[node].up = false;
        nodes[node].closeContexts();
        int failed = 0;
        for (int r = world.firstOpen; r < world.requestCount; r++) {
            Request request = world.requestAt(r);
            if (request != null && request.host == node && request.state == IS_OPEN) {
                request.state = IS_FAILED;
                failed++;
            }
        }
        return failed;
    }

    private void boot(int node) {
        try {
            if (node == world.nodes) {
                keeper.load();
                return;
            }
            for (int shard = 0; shard < world.shards; shard++) {
                Replica replica = nodes[node].replicaOf(shard);
                if (replica != null) {
                    replica.load();
                }
            }
            world.send(node, world.nodes, HELLO);
        } catch (IllegalStateException torn) {
            fall(node);
        }
    }

    private void pulse() {
        world.now++;
        world.skipClosed();
        for (int x = 0; x < world.nodes; x++) {
            if (nodes[x].up) {
                for (int shard = 0; shard < world.shards; shard++) {
                    Replica replica = nodes[x].replicaOf(shard);
                    if (replica != null) {
                        replica.pulse();
                    }
                }
                nodes[x].beat();
                nodes[x].closeOldContexts();
                world.ageRequests(x);
            }
        }
        if (nodes[world.nodes].up) {
            try {
                keeper.watch();
            } catch (IllegalStateException torn) {
                fall(world.nodes);
            }
        }
    }

    private int contextsInUse() {
        int used = 0;
        for (int x = 0; x < world.nodes; x++) {
            used += nodes[x].usedContexts();
        }
        return used;
    }

    /** DELIVERS a LINK's first MESSAGE; what it sets going ends where a BLOCK tears. */
    private int pass(int from, int to) {
        Message m = world.take(from, to);
        if (m == null) {
            return 0;
        }
        world.delivered++;
        if (!nodes[to].up) {
            return m.kind;
        }
        Replica replica = replicaFor(m, to);
        try {
            if (replica != null) {
                switch (m.kind) {
                    case WRITE: replica.onWrite(from, m); break;
                    case REPL: replica.onRepl(from, m); break;
                    case ACK: replica.onAck(from, m); break;
                    case SYNC: replica.onSync(from, m); break;
                    case WANT: replica.onWant(from, m); break;
                    case JOIN: replica.onJoin(from); break;
                    case OUT: replica.onOut(m); break;
                    case CONFIG: replica.onConfig(m); break;
                    case SHOW: replica.onShow(from, m); break;
                    case SHOWTO: replica.onShowTo(from, m); break;
                    default: break;
                }
            } else {
                switch (m.kind) {
                    case ROUTE: keeper.onRoute(from, m); break;
                    case ADD: keeper.onAdd(from, m); break;
                    case FAIL: keeper.onFail(from, m); break;
                    case HELLO:
                    case BEAT: keeper.onSign(from, m); break;
                    case OPEN: nodes[to].onOpen(from, m); break;
                    case SCORE: nodes[to].onScore(from, m); break;
                    case MAP:
                    case NO:
                    case DONE:
                    case STATS:
                    case TOP: world.answer(from, m); break;
                    default: break;
                }
            }
        } catch (IllegalStateException torn) {
            fall(to);
        }
        return m.kind;
    }

    /** The COPY that a MESSAGE is for; null if it is for none, or the node does not have it. */
    private Replica replicaFor(Message m, int to) {
        switch (m.kind) {
            case REPL:
            case ACK:
            case SYNC:
            case WANT:
            case JOIN:
            case OUT:
            case CONFIG:
            case SHOWTO:
                return nodes[to].replicaOf(m.numbers[0]);
            case WRITE:
            case SHOW:
                Request request = world.requestAt(m.numbers[0]);
                return request == null ? null : nodes[to].replicaOf(request.shardIn(world));
            default:
                return null;
        }
    }

    // ======== texts made WORDS

    private static boolean isRowOctet(int octet) {
        return octet >= '0' && octet <= '9' || octet >= 'A' && octet <= 'Z' || octet >= 'a' && octet <= 'z';
    }

    private static int small(int octet) {
        return octet >= 'A' && octet <= 'Z' ? octet + 32 : octet;
    }

    private static int rowEnd(int[] octets, int size, int at) {
        int end = at;
        while (end < size && isRowOctet(octets[end])) {
            end++;
        }
        return end;
    }

    private static boolean beginsRow(int[] octets, int at) {
        return isRowOctet(octets[at]) && (at == 0 || !isRowOctet(octets[at - 1]));
    }

    private static int countRows(int[] text) {
        int count = 0;
        for (int at = 0; at < text.length; at++) {
            if (beginsRow(text, at)) {
                count++;
            }
        }
        return count;
    }

    /** The WORD of each row of a text, 0 for a row that is none: a WORD's index is its PLACE. */
    private static long[] rowsOf(int[] text) {
        int count = countRows(text);
        if (count == 0) {
            return NO_WORDS;
        }
        long[] rows = new long[count];
        int place = 0;
        for (int at = 0; at < text.length && place < count; at++) {
            if (beginsRow(text, at)) {
                rows[place] = wordOf(text, at, rowEnd(text, text.length, at));
                place++;
            }
        }
        return rows;
    }

    private static long wordOf(int[] octets, int start, int end) {
        int size = Math.min(end - start, MOST_WORD);
        if (!lettersAlone(octets, start, size)) {
            return packed(octets, start, size, false);
        }
        if (size >= 5 && endsWith(octets, start + size, 'i', 'e', 's')) {
            return packed(octets, start, size - 3, true);
        }
        int keep = size;
        if (size >= 6 && endsWith(octets, start + size, 'i', 'n', 'g')) {
            keep = size - 3;
        } else if (size >= 5 && endsWith(octets, start + size, 0, 'e', 'd')) {
            keep = size - 2;
        } else if (size >= 4 && small(octets[start + size - 1]) == 's' && small(octets[start + size - 2]) != 's') {
            keep = size - 1;
        }
        return isLittle(octets, start, keep) ? 0L : packed(octets, start, keep, false);
    }

    private static boolean lettersAlone(int[] octets, int start, int size) {
        for (int i = 0; i < size; i++) {
            if (octets[start + i] <= '9') {
                return false;
            }
        }
        return true;
    }

    /** Whether the three octets before an end are these; a first one of 0 may be any. */
    private static boolean endsWith(int[] octets, int end, int first, int second, int third) {
        return (first == 0 || small(octets[end - 3]) == first)
                && small(octets[end - 2]) == second && small(octets[end - 1]) == third;
    }

    private static boolean isLittle(int[] octets, int start, int size) {
        int first = size < 1 ? 0 : small(octets[start]);
        int second = size < 2 ? 0 : small(octets[start + 1]);
        if (size == 1) {
            return first == 'a';
        }
        if (size == 2) {
            return first == 'a' && second == 'n' || first == 'o' && second == 'f';
        }
        return size == 3 && first == 't' && second == 'h' && small(octets[start + 2]) == 'e';
    }

    private static long packed(int[] octets, int start, int keep, boolean withY) {
        long word = 0;
        for (int i = 0; i < MOST_WORD; i++) {
            int octet = i < keep ? small(octets[start + i]) : withY && i == keep ? 'y' : 0;
            word = word * BASE_37 + figureOf(octet);
        }
        return word;
    }

    private static int figureOf(int octet) {
        if (octet == 0) {
            return 0;
        }
        return octet <= '9' ? octet - '0' + 1 : octet - 'a' + 11;
    }

    /** Puts a document into a row of pairs (document, SCORE) from start on, the best first; answers how many there are. */
    private static int rank(int[] row, int start, int count, int most, int document, int score) {
        int place = count;
        while (place > 0 && comesBefore(row, start + 2 * (place - 1), document, score)) {
            place--;
        }
        if (place >= most) {
            return count;
        }
        int kept = Math.min(count, most - 1);
        for (int i = kept; i > place; i--) {
            row[start + 2 * i] = row[start + 2 * i - 2];
            row[start + 2 * i + 1] = row[start + 2 * i - 1];
        }
        row[start + 2 * place] = document;
        row[start + 2 * place + 1] = score;
        return kept + 1;
    }

    private static boolean comesBefore(int[] row, int at, int document, int score) {
        return score > row[at + 1] || score == row[at + 1] && document < row[at];
    }

    /** A MESSAGE's slot on a LINK, used again and again. */
    private static final class Message {
        int kind;
        final int[] numbers = new int[MESSAGE_NUMBERS];
        // What a SYNC carries; made when the slot first holds one, for few ever do.
        int[] documents = NO_NUMBERS;
        int[] done = NO_NUMBERS;
        int[] acts = NO_NUMBERS;

        Message with(int a, int b, int c, int d, int e) {
            numbers[0] = a;
            numbers[1] = b;
            numbers[2] = c;
            numbers[3] = d;
            numbers[4] = e;
            return this;
        }

        void carry(Copy copy) {
            if (acts.length == 0) {
                documents = new int[DOCUMENTS];
                done = new int[DONE_OCTETS];
                acts = new int[MOST_BEHIND_BASE];
            }
            System.arraycopy(copy.documents, 0, documents, 0, DOCUMENTS);
            System.arraycopy(copy.done, 0, done, 0, DONE_OCTETS);
            for (int i = 0; i < MOST_BEHIND_BASE; i++) {
                acts[i] = copy.actAt(copy.base + 1 + i);
            }
        }

        int carriedAct(int number) {
            int i = number - numbers[S_BASE] - 1;
            return i < 0 || i >= acts.length ? NONE : acts[i];
        }
    }

    /** What all parts share: how big the cluster is, its time, its REQUESTS, its LINKS, and what is counted. */
    private static final class World {
        int nodes;
        int shards;
        int copies;
        int now;
        int requestCount;
        int firstOpen;
        int delivered;
        int lost;
        int written;
        int stamps;
        final Request[] requests = new Request[MOST_REQUESTS];
        final Message[] slots = new Message[LINK_SIDE * LINK_SIDE * LINK_SLOTS];
        final int[] first = new int[LINK_SIDE * LINK_SIDE];
        final int[] held = new int[LINK_SIDE * LINK_SIDE];
        // Stands in for a MESSAGE that is lost, so that who SENDS need not ask.
        final Message nowhere = new Message();
        final byte[] image = new byte[HALF];
        final byte[] block = new byte[BLOCK];
        final int[] documents = new int[DOCUMENTS];

        void begin(int n, int s, int c) {
            nodes = n;
            shards = s;
            copies = c;
            now = 0;
            for (int r = 0; r < requestCount; r++) {
                requests[r] = null;
            }
            requestCount = 0;
            firstOpen = 0;
            delivered = 0;
            lost = 0;
            written = 0;
            Arrays.fill(held, 0);
        }

        boolean holds(int node, int shard) {
            return node >= 0 && node < nodes && shard >= 0 && shard < shards
                    && Math.floorMod(node - shard, nodes) < copies;
        }

        int maskOf(int shard) {
            int mask = 0;
            for (int x = 0; x < nodes; x++) {
                if (holds(x, shard)) {
                    mask |= 1 << x;
                }
            }
            return mask;
        }

        int shardOf(int document) {
            return shards > 0 ? document % shards : 0;
        }

        int firstPrimaryOf(int shard) {
            return nodes > 0 ? shard % nodes : 0;
        }

        Request requestAt(int r) {
            return r < 0 || r >= requestCount ? null : requests[r];
        }

        int linkOf(int from, int to) {
            return from < 0 || from > nodes || to < 0 || to > nodes ? NONE : from * LINK_SIDE + to;
        }

        Message send(int from, int to, int kind) {
            Message message = nowhere;
            int link = linkOf(from, to);
            if (link != NONE && held[link] >= LINK_ROOM) {
                lost++;
            } else if (link != NONE) {
                int slot = link * LINK_SLOTS + (first[link] + held[link]) % LINK_SLOTS;
                if (slots[slot] == null) {
                    slots[slot] = new Message();
                }
                held[link]++;
                message = slots[slot];
            }
            message.kind = kind;
            Arrays.fill(message.numbers, 0);
            return message;
        }

        void refuse(int from, int to, Message asked) {
            send(from, to, NO).with(asked.numbers[0], asked.numbers[1], 0, 0, 0);
        }

        void sendDone(int from, int r) {
            Request request = requestAt(r);
            if (request != null) {
                send(from, request.host, DONE).with(r, 0, 0, 0, 0);
            }
        }

        Message messageAt(int from, int to, int i) {
            int link = linkOf(from, to);
            if (link == NONE || i < 0 || i >= held[link]) {
                return null;
            }
            return slots[link * LINK_SLOTS + (first[link] + i) % LINK_SLOTS];
        }

        Message take(int from, int to) {
            Message message = messageAt(from, to, 0);
            if (message != null) {
                int link = linkOf(from, to);
                first[link] = (first[link] + 1) % LINK_SLOTS;
                held[link]--;
            }
            return message;
        }

        int onLinks() {
            int sum = 0;
            for (int link = 0; link < held.length; link++) {
                sum += held[link];
            }
            return sum;
        }

        /** Each REQUEST ends in 40 TICKS, so those that ended long ago need not be looked at again. */
        void skipClosed() {
            while (firstOpen < requestCount && !isOpen(requestAt(firstOpen))) {
                firstOpen++;
            }
        }

        private static boolean isOpen(Request request) {
            return request != null && request.state == IS_OPEN;
        }

        void ageRequests(int host) {
            for (int r = firstOpen; r < requestCount; r++) {
                Request request = requestAt(r);
                if (request != null && request.host == host && request.state == IS_OPEN) {
                    request.age(this);
                }
            }
        }

        /** MAP, NO, DONE, STATS, TOP at the HOST. */
        void answer(int from, Message m) {
            Request request = requestAt(m.numbers[0]);
            if (request == null || request.state != IS_OPEN) {
                return;
            }
            if (m.kind == DONE) {
                request.state = IS_DONE;
            } else if (request.attempt == m.numbers[1]) {
                request.onAnswer(this, from, m);
            }
        }
    }

    /** A REQUEST, and what a FIND gathered in its attempt. */
    private static final class Request {
        final int number;
        final int kind;
        final int host;
        final int item;
        final int came;
        final int[] text;
        final long[] rows;
        final int length;
        final Question question;
        final int[] helpers;
        final int[] contexts;
        final int[] sums;
        final int[] hits;
        int state;
        int attempt;
        int tried;
        boolean over;
        int statsOf;
        int topsOf;
        int hitCount;

        Request(int number, int kind, int host, int item, int came, int[] text, Question question) {
            this.number = number;
            this.kind = kind;
            this.host = host;
            this.item = item;
            this.came = came;
            this.text = text;
            this.question = question;
            tried = came;
            rows = rowsOf(text);
            length = countWords(rows);
            helpers = kind == FIND ? new int[MOST_SHARDS] : NO_NUMBERS;
            contexts = kind == FIND ? new int[MOST_SHARDS] : NO_NUMBERS;
            sums = kind == FIND ? new int[MESSAGE_NUMBERS] : NO_NUMBERS;
            hits = kind == FIND ? new int[2 * MOST_HITS] : NO_NUMBERS;
        }

        private static int countWords(long[] rows) {
            int count = 0;
            for (int i = 0; i < rows.length; i++) {
                if (rows[i] != 0) {
                    count++;
                }
            }
            return count;
        }

        int shardIn(World world) {
            return kind == REFRESH ? item : world.shardOf(item);
        }

        int toldHits() {
            return kind == FIND && state == IS_DONE ? hitCount : 0;
        }

        void age(World world) {
            if (world.now - came >= GIVE_UP) {
                state = IS_FAILED;
            } else if (world.now - tried >= TRY_AGAIN) {
                attempt++;
                tried = world.now;
                world.send(host, world.nodes, ROUTE).with(number, attempt, 0, 0, 0);
            }
        }

        void onAnswer(World world, int from, Message m) {
            if (m.kind == MAP && kind == FIND) {
                openAll(world, m);
            } else if (m.kind == MAP) {
                int primary = m.numbers[TOLD_NUMBERS + MAP_NUMBERS * shardIn(world) + V_PRIMARY];
                world.send(host, primary, kind == REFRESH ? SHOW : WRITE).with(number, attempt, 0, 0, 0);
            } else if (m.kind == NO) {
                over = true;
            } else if (kind == FIND && !over) {
                gather(world, from, m);
            }
        }

        private void openAll(World world, Message m) {
            over = false;
            statsOf = 0;
            topsOf = 0;
            hitCount = 0;
            Arrays.fill(sums, 0);
            for (int shard = 0; shard < world.shards; shard++) {
                int mask = m.numbers[TOLD_NUMBERS + MAP_NUMBERS * shard + V_MASK];
                int helper = chosen(world.nodes, mask);
                world.send(host, helper, OPEN).with(number, attempt, shard, 0, 0);
            }
        }

        private int chosen(int nodes, int mask) {
            int many = Integer.bitCount(mask);
            int left = many > 0 ? (number + attempt) % many : 0;
            for (int x = 0; x < nodes; x++) {
                if ((mask >> x & 1) == 1) {
                    if (left == 0) {
                        return x;
                    }
                    left--;
                }
            }
            return NONE;
        }

        private void gather(World world, int from, Message m) {
            int shard = m.numbers[2];
            if (shard < 0 || shard >= world.shards || shard >= helpers.length) {
                return;
            }
            int all = (1 << world.shards) - 1;
            if (m.kind == STATS && (statsOf >> shard & 1) == 0) {
                statsOf |= 1 << shard;
                helpers[shard] = from;
                contexts[shard] = m.numbers[3];
                for (int i = AT_D; i < MESSAGE_NUMBERS; i++) {
                    sums[i] += m.numbers[i];
                }
                if (statsOf == all) {
                    scoreAll(world);
                }
            } else if (m.kind == TOP && (topsOf >> shard & 1) == 0) {
                topsOf |= 1 << shard;
                takeTop(m);
                if (topsOf == all) {
                    state = IS_DONE;
                }
            }
        }

        private void scoreAll(World world) {
            for (int shard = 0; shard < world.shards; shard++) {
                Message score = world.send(host, helpers[shard], SCORE);
                score.with(number, attempt, shard, contexts[shard], 0);
                System.arraycopy(sums, AT_D, score.numbers, AT_D, MESSAGE_NUMBERS - AT_D);
            }
        }

        private void takeTop(Message m) {
            int many = Math.min(m.numbers[3], MOST_HITS);
            for (int i = 0; i < many; i++) {
                int at = TOLD_NUMBERS + 2 * i;
                hitCount = rank(hits, 0, hitCount, item, m.numbers[at], m.numbers[at + 1]);
            }
        }
    }

    /** A QUESTION's clauses, but for those without any WORD. */
    private static final class Question {
        int clauses;
        // '+', '-' or 0
        final int[] sign = new int[MOST_CLAUSES];
        // how many rows a UNIT has; 0 for one with *, whose WORDS lie from words[0] to before words[1]
        final int[] rows = new int[MOST_CLAUSES];
        // four of each clause, 0 for a row that is no WORD
        final long[] words = new long[MOST_CLAUSES * MOST_ROWS];

        /** Answers 0, or -2 less the place of the FAULT. */
        int read(int[] octets, int size) {
            int seen = 0;
            int next = 0;
            for (int at = 0; at < size; at++) {
                if (at < next || octets[at] == ' ') {
                    continue;
                }
                if (seen == MOST_CLAUSES) {
                    return fault(at);
                }
                seen++;
                next = readClause(octets, size, at);
                if (next < 0) {
                    return next;
                }
            }
            return seen == 0 ? fault(size) : 0;
        }

        private static int fault(int place) {
            return -2 - place;
        }

        /** Answers where the clause ends, or its FAULT. */
        private int readClause(int[] octets, int size, int start) {
            boolean signed = octets[start] == '+' || octets[start] == '-';
            sign[clauses] = signed ? octets[start] : 0;
            int at = signed ? start + 1 : start;
            if (at >= size) {
                return fault(size);
            }
            if (octets[at] == '"') {
                return readQuoted(octets, size, at + 1);
            }
            if (!isRowOctet(octets[at])) {
                return fault(at);
            }
            int end = rowEnd(octets, size, at);
            boolean star = end < size && octets[end] == '*';
            int next = star ? end + 1 : end;
            if (next < size && octets[next] != ' ') {
                return fault(next);
            }
            if (star) {
                keepStar(octets, at, end);
            } else {
                words[clauses * MOST_ROWS] = wordOf(octets, at, end);
                keepWords(1);
            }
            return next;
        }

        private int readQuoted(int[] octets, int size, int start) {
            int count = 0;
            for (int at = start; at < size; at++) {
                if (octets[at] == '"') {
                    return endQuoted(octets, size, at, count);
                }
                if (octets[at] != ' ' && !isRowOctet(octets[at])) {
                    return fault(at);
                }
                if (beginsRow(octets, at)) {
                    if (count == MOST_ROWS) {
                        return fault(at);
                    }
                    words[clauses * MOST_ROWS + count] = wordOf(octets, at, rowEnd(octets, size, at));
                    count++;
                }
            }
            return fault(size);
        }

        private int endQuoted(int[] octets, int size, int at, int count) {
            if (count == 0) {
                return fault(at);
            }
            if (at + 1 < size && octets[at + 1] != ' ') {
                return fault(at + 1);
            }
            keepWords(count);
            return at + 1;
        }

        private void keepStar(int[] octets, int at, int end) {
            int size = Math.min(end - at, MOST_WORD);
            long span = 1;
            for (int i = size; i < MOST_WORD; i++) {
                span *= BASE_37;
            }
            long low = packed(octets, at, size, false);
            words[clauses * MOST_ROWS] = low;
            words[clauses * MOST_ROWS + 1] = low + span;
            rows[clauses] = 0;
            clauses++;
        }

        private void keepWords(int count) {
            rows[clauses] = count;
            if (wordsIn(clauses) > 0) {
                clauses++;
            }
        }

        private int wordsIn(int clause) {
            int count = 0;
            for (int i = 0; i < rows[clause]; i++) {
                if (words[clause * MOST_ROWS + i] != 0) {
                    count++;
                }
            }
            return count;
        }

        /** D, T and each F of a CONTEXT's documents go into their places among a STATS's numbers. */
        void tally(World world, int[] context, int[] numbers) {
            for (int d = 0; d < DOCUMENTS; d++) {
                Request text = world.requestAt(context[C_DOCUMENTS + d]);
                if (text != null) {
                    numbers[AT_D]++;
                    numbers[AT_T] += text.length;
                    tallyWords(text.rows, numbers);
                }
            }
        }

        private void tallyWords(long[] text, int[] numbers) {
            int at = AT_F;
            for (int clause = 0; clause < clauses; clause++) {
                for (int i = 0; i < rows[clause]; i++) {
                    long word = words[clause * MOST_ROWS + i];
                    if (word != 0 && at < MESSAGE_NUMBERS) {
                        numbers[at] += hasBetween(text, word, word + 1) ? 1 : 0;
                        at++;
                    }
                }
            }
        }

        private static boolean hasBetween(long[] text, long low, long high) {
            for (int i = 0; i < text.length; i++) {
                if (text[i] >= low && text[i] < high) {
                    return true;
                }
            }
            return false;
        }

        /** A document's SCORE with the sums of a SCORE's numbers; NONE when it is not FOUND. */
        int scoreOf(Request text, int[] numbers) {
            long sum = 0;
            boolean some = false;
            int at = AT_F;
            for (int clause = 0; clause < clauses; clause++) {
                int times = timesIn(clause, text.rows);
                if (sign[clause] == '-' && times > 0 || sign[clause] == '+' && times == 0) {
                    return NONE;
                }
                int count = wordsIn(clause);
                if (times > 0) {
                    some = true;
                    sum += count == 0 ? STAR_SCORE : gain(rareOf(numbers, at, count), times, text.length, numbers);
                }
                at += count;
            }
            return some ? (int) sum : NONE;
        }

        /** How often a text FITS a UNIT; one with * once at most. */
        private int timesIn(int clause, long[] text) {
            int first = clause * MOST_ROWS;
            if (rows[clause] == 0) {
                return hasBetween(text, words[first], words[first + 1]) ? 1 : 0;
            }
            int times = 0;
            for (int place = 0; place < text.length; place++) {
                if (standsAt(clause, text, place)) {
                    times++;
                }
            }
            return times;
        }

        private boolean standsAt(int clause, long[] text, int place) {
            for (int i = 0; i < rows[clause]; i++) {
                long word = words[clause * MOST_ROWS + i];
                if (word != 0 && (place + i >= text.length || text[place + i] != word)) {
                    return false;
                }
            }
            return true;
        }

        private static long rareOf(int[] numbers, int at, int count) {
            long rare = 0;
            for (int i = at; i < at + count && i < MESSAGE_NUMBERS; i++) {
                rare += logOf(2 * numbers[AT_D] + 2) - logOf(2 * numbers[i] + 1);
            }
            return rare;
        }

        private static long gain(long rare, long times, long length, int[] numbers) {
            long share = numbers[AT_T] > 0 ? 900L * length * numbers[AT_D] / numbers[AT_T] : 0L;
            long divisor = 1000L * times + 300L + share;
            return divisor > 0 ? rare * 2200L * times / divisor : 0L;
        }

        private static int logOf(int x) {
            int high = 0;
            while (high < 30 && x >> (high + 1) > 0) {
                high++;
            }
            int behind = high >= 6 ? x >> (high - 6) : x << (6 - high);
            return 64 * high + (behind & 63);
        }
    }

    /** A node (THE KEEPER's, too): whether it is UP, when it FAILS, its COPIES and CONTEXTS. */
    private static final class Node {
        final World world;
        final int number;
        final Replica[] replicas = new Replica[MOST_SHARDS];
        // request (NONE: free), attempt, shard, the TICK at which it came, then each document's REQUEST
        final int[][] contexts = new int[MOST_CONTEXTS][C_DOCUMENTS + DOCUMENTS];
        boolean up;
        int failIn;
        int failKeep;

        Node(World world, int number) {
            this.world = world;
            this.number = number;
        }

        void begin() {
            for (int shard = 0; shard < MOST_SHARDS; shard++) {
                replicas[shard] = null;
            }
            closeContexts();
            up = true;
            failIn = 0;
            failKeep = 0;
        }

        Replica replicaOf(int shard) {
            return shard < 0 || shard >= MOST_SHARDS ? null : replicas[shard];
        }

        void closeContexts() {
            for (int i = 0; i < MOST_CONTEXTS; i++) {
                contexts[i][C_REQUEST] = NONE;
            }
        }

        void closeOldContexts() {
            for (int i = 0; i < MOST_CONTEXTS; i++) {
                if (world.now - contexts[i][C_BORN] >= CONTEXT_AGE) {
                    contexts[i][C_REQUEST] = NONE;
                }
            }
        }

        int usedContexts() {
            int used = 0;
            for (int i = 0; i < MOST_CONTEXTS; i++) {
                if (contexts[i][C_REQUEST] != NONE) {
                    used++;
                }
            }
            return used;
        }

        private int freeContext() {
            for (int i = 0; i < MOST_CONTEXTS; i++) {
                if (contexts[i][C_REQUEST] == NONE) {
                    return i;
                }
            }
            return NONE;
        }

        void beat() {
            if (world.now % 2 != 0) {
                return;
            }
            Message beat = world.send(number, world.nodes, BEAT);
            for (int shard = 0; shard < MOST_SHARDS; shard++) {
                Replica replica = replicas[shard];
                if (replica != null) {
                    beat.numbers[TOLD_NUMBERS + 2 * shard] = replica.view[V_VERSION];
                    beat.numbers[TOLD_NUMBERS + 2 * shard + 1] = replica.role == PRIMARY ? replica.copy.term : 0;
                }
            }
        }

        void onOpen(int from, Message m) {
            int shard = m.numbers[2];
            Request request = world.requestAt(m.numbers[0]);
            Replica replica = replicaOf(shard);
            int free = freeContext();
            if (request == null || request.question == null || replica == null || !replica.isInMask(number)
                    || free == NONE) {
                world.refuse(number, from, m);
                return;
            }
            int[] context = contexts[free];
            context[C_REQUEST] = m.numbers[0];
            context[C_ATTEMPT] = m.numbers[1];
            context[C_SHARD] = shard;
            context[C_BORN] = world.now;
            System.arraycopy(replica.copy.index.shown, 0, context, C_DOCUMENTS, DOCUMENTS);
            Message stats = world.send(number, from, STATS).with(m.numbers[0], m.numbers[1], shard, free, 0);
            request.question.tally(world, context, stats.numbers);
        }

        void onScore(int from, Message m) {
            int i = m.numbers[3];
            Request request = world.requestAt(m.numbers[0]);
            if (request == null || request.question == null || i < 0 || i >= MOST_CONTEXTS
                    || contexts[i][C_REQUEST] != m.numbers[0] || contexts[i][C_ATTEMPT] != m.numbers[1]
                    || contexts[i][C_SHARD] != m.numbers[2]) {
                world.refuse(number, from, m);
                return;
            }
            Message top = world.send(number, from, TOP).with(m.numbers[0], m.numbers[1], m.numbers[2], 0, 0);
            int count = 0;
            for (int d = 0; d < DOCUMENTS; d++) {
                Request text = world.requestAt(contexts[i][C_DOCUMENTS + d]);
                int score = text == null ? NONE : request.question.scoreOf(text, m.numbers);
                if (score != NONE) {
                    count = rank(top.numbers, TOLD_NUMBERS, count, request.item, d, score);
                }
            }
            top.numbers[3] = count;
            contexts[i][C_REQUEST] = NONE;
        }
    }

    /** What a COPY has and keeps on its DISK: its ACTS, its documents at BASE, its INDEX. */
    private static final class Copy {
        final World world;
        final Disk disk;
        final Index index;
        // by number; only BASE + 1 .. LAST count
        final int[] acts = new int[MOST_ACTS];
        final int[] terms = new int[MOST_ACTS];
        // at BASE
        final int[] documents = new int[DOCUMENTS];
        final int[] done = new int[DONE_OCTETS];
        int shard;
        int term;
        int base;
        int last;
        int sure;
        int shown;

        Copy(World world) {
            this.world = world;
            disk = new Disk(world);
            index = new Index(world);
        }

        void begin(Node home, int shard) {
            this.shard = shard;
            clear();
            term = 1;
            index.begin(shard);
            disk.begin(home);
            flush();
        }

        private void clear() {
            term = 0;
            base = 0;
            last = 0;
            sure = 0;
            shown = 0;
            Arrays.fill(documents, NONE);
            Arrays.fill(done, 0);
        }

        int tell(int what) {
            switch (what) {
                case 0:
                    return term;
                case 1:
                    return base;
                case 2:
                    return last;
                case 3:
                    return sure;
                case 4:
                    return shown;
                case 6:
                    return index.count;
                case 7:
                    return disk.generation;
                default:
                    return countDocuments();
            }
        }

        private int countDocuments() {
            documentsAt(last, world.documents);
            int count = 0;
            for (int d = 0; d < DOCUMENTS; d++) {
                if (world.documents[d] != NONE) {
                    count++;
                }
            }
            return count;
        }

        int actAt(int number) {
            return number <= base || number > last || number >= MOST_ACTS ? NONE : acts[number];
        }

        int requestOf(int document, int number) {
            for (int i = number; i > base; i--) {
                Request act = world.requestAt(actAt(i));
                if (act != null && act.item == document) {
                    return act.kind == PUT ? act.number : NONE;
                }
            }
            return documents[document];
        }

        private void documentsAt(int number, int[] row) {
            System.arraycopy(documents, 0, row, 0, DOCUMENTS);
            for (int i = base + 1; i <= number; i++) {
                Request act = world.requestAt(actAt(i));
                if (act != null && act.item < DOCUMENTS) {
                    row[act.item] = act.kind == PUT ? act.number : NONE;
                }
            }
        }

        /** The number of a REQUEST's ACT (BASE for all up to it); NONE when it is not DONE. */
        int numberOf(int r) {
            if (r >= 0 && r < 8 * DONE_OCTETS && (done[r / 8] >> (r % 8) & 1) == 1) {
                return base;
            }
            for (int i = base + 1; i <= last; i++) {
                if (actAt(i) == r) {
                    return i;
                }
            }
            return NONE;
        }

        void raiseSure(int told) {
            sure = Math.max(sure, Math.min(told, last));
        }

        void append(int r, int t) {
            Request request = world.requestAt(r);
            if (request == null || last + 1 >= MOST_ACTS) {
                return;
            }
            if (last - base >= FLUSH_BEHIND && sure > base) {
                flush();
            }
            if (!disk.fits(ACT_SIZE + request.text.length)) {
                flush();
            }
            disk.clearImage();
            addAct(last + 1, request, t);
            disk.commit();
            last++;
            acts[last] = r;
            terms[last] = t;
        }

        void cutTo(int number, int t) {
            if (!disk.fits(CUT_SIZE)) {
                flush();
            }
            disk.clearImage();
            disk.open(RECORD_CUT);
            disk.addTwo(number);
            disk.addTwo(t);
            disk.close();
            disk.commit();
            last = Math.min(last, number);
            term = t;
        }

        void showUpTo(int number) {
            if (!disk.fits(SHOWN_SIZE)) {
                flush();
            }
            int now = Math.max(number, base);
            disk.clearImage();
            addShown(now);
            disk.commit();
            documentsAt(now, world.documents);
            index.update(world.documents);
            shown = now;
        }

        /** Takes over what a SYNC carries. */
        void follow(Message m) {
            int t = m.numbers[S_TERM];
            int told = m.numbers[S_SURE];
            int like = likeUpTo(m);
            if (sure < m.numbers[S_BASE]) {
                rebase(m, like);
            } else if (like < last || t > term) {
                cutTo(like, t);
            }
            raiseSure(told);
            int end = Math.min(m.numbers[S_LAST], MOST_ACTS - 1);
            for (int number = last + 1; number <= end; number++) {
                append(m.carriedAct(number), t);
                raiseSure(told);
            }
            if (m.numbers[S_SHOWN] > shown) {
                showUpTo(m.numbers[S_SHOWN]);
            }
        }

        /** The last number up to which own ACTS are those of a SYNC. */
        private int likeUpTo(Message m) {
            int at = Math.max(sure, m.numbers[S_BASE]);
            while (at < last && at < m.numbers[S_LAST] && actAt(at + 1) == m.carriedAct(at + 1)) {
                at++;
            }
            return at;
        }

        private void rebase(Message m, int like) {
            base = m.numbers[S_BASE];
            last = like;
            sure = Math.max(base, Math.min(m.numbers[S_SURE], like));
            term = m.numbers[S_TERM];
            if (m.documents.length == DOCUMENTS && m.done.length == DONE_OCTETS) {
                System.arraycopy(m.documents, 0, documents, 0, DOCUMENTS);
                System.arraycopy(m.done, 0, done, 0, DONE_OCTETS);
            }
            flush();
        }

        private void flush() {
            documentsAt(sure, documents);
            markDone();
            base = sure;
            disk.clearImage();
            disk.open(RECORD_BASE);
            disk.addTwo(base);
            disk.addTwo(term);
            for (int i = 0; i < DONE_OCTETS; i++) {
                disk.addOne(done[i]);
            }
            disk.close();
            for (int d = 0; d < DOCUMENTS; d++) {
                addDocument(d);
            }
            addShown(shown);
            for (int i = base + 1; i <= last; i++) {
                addAct(i, world.requestAt(actAt(i)), terms[i]);
            }
            disk.swap();
        }

        private void markDone() {
            for (int i = base + 1; i <= sure; i++) {
                int r = actAt(i);
                if (r >= 0 && r < 8 * DONE_OCTETS) {
                    done[r / 8] |= 1 << (r % 8);
                }
            }
        }

        private void addDocument(int d) {
            Request put = world.requestAt(documents[d]);
            if (put != null) {
                disk.open(RECORD_DOCUMENT);
                disk.addOne(d);
                disk.addTwo(put.number);
                disk.addText(put.text);
                disk.close();
            }
        }

        private void addShown(int number) {
            disk.open(RECORD_SHOWN);
            disk.addTwo(number);
            disk.close();
        }

        private void addAct(int number, Request request, int t) {
            if (request == null) {
                return;
            }
            disk.open(request.kind == PUT ? RECORD_PUT : RECORD_DROP);
            disk.addTwo(number);
            disk.addTwo(t);
            disk.addTwo(request.number);
            disk.addTwo(sure);
            disk.addOne(request.item);
            disk.addText(request.text);
            disk.close();
        }

        void load() {
            clear();
            disk.choose();
            int at = 0;
            int size = disk.sizeAt(at);
            while (size > 0 && at < HALF) {
                readRecord(at);
                at += size;
                size = disk.sizeAt(at);
            }
            disk.endAt(at);
            shown = Math.min(Math.max(shown, base), last);
            sure = Math.min(Math.max(sure, shown), last);
            index.begin(shard);
            documentsAt(shown, world.documents);
            index.update(world.documents);
        }

        private void readRecord(int at) {
            int two = disk.twoAt(at + 2);
            switch (disk.oneAt(at)) {
                case RECORD_PUT:
                case RECORD_DROP:
                    readAct(at);
                    break;
                case RECORD_CUT:
                    last = Math.min(last, two);
                    term = Math.max(term, disk.twoAt(at + 4));
                    break;
                case RECORD_SHOWN:
                    shown = Math.max(shown, two);
                    break;
                case RECORD_BASE:
                    readBase(at);
                    break;
                case RECORD_DOCUMENT:
                    int document = disk.oneAt(at + 2);
                    if (document < DOCUMENTS) {
                        documents[document] = disk.twoAt(at + 3);
                    }
                    break;
                default:
                    break;
            }
        }

        private void readAct(int at) {
            int number = disk.twoAt(at + 2);
            if (number != last + 1 || number >= MOST_ACTS) {
                return;
            }
            last = number;
            terms[number] = disk.twoAt(at + 4);
            acts[number] = disk.twoAt(at + 6);
            term = Math.max(term, terms[number]);
            sure = Math.max(sure, disk.twoAt(at + 8));
        }

        private void readBase(int at) {
            base = disk.twoAt(at + 2);
            last = base;
            term = Math.max(term, disk.twoAt(at + 4));
            for (int i = 0; i < DONE_OCTETS; i++) {
                done[i] = disk.oneAt(at + 6 + i);
            }
        }
    }

    /** A COPY among the others: its ROLE, its VIEW, and what a PRIMARY has of the others. */
    private static final class Replica {
        final World world;
        final Copy copy;
        final int[] view = new int[VIEW_NUMBERS];
        final int[] state = new int[MOST_NODES];
        final int[] has = new int[MOST_NODES];
        final int[] saw = new int[MOST_NODES];
        final int[] heard = new int[MOST_NODES];
        final int[] sent = new int[MOST_NODES];
        final int[] counts = new int[MOST_NODES];
        final int[] waiting = new int[MOST_WAITS];
        final int[] waitingFor = new int[MOST_WAITS];
        int waits;
        int node;
        int role;
        int joinSent;

        Replica(World world) {
            this.world = world;
            copy = new Copy(world);
        }

        void begin(Node home, int shard) {
            node = home.number;
            copy.begin(home, shard);
            view[V_TERM] = 1;
            view[V_PRIMARY] = world.firstPrimaryOf(shard);
            view[V_MASK] = world.maskOf(shard);
            view[V_VERSION] = 1;
            role = view[V_PRIMARY] == node ? PRIMARY : FOLLOWER;
            waits = 0;
            joinSent = 0;
            for (int x = 0; x < MOST_NODES; x++) {
                setOther(x, isOther(x) ? IN : 0, 0, 0);
                sent[x] = 0;
                counts[x] = 0;
            }
        }

        void load() {
            copy.load();
            view[V_TERM] = 0;
            view[V_PRIMARY] = NONE;
            view[V_MASK] = 0;
            view[V_VERSION] = 0;
            role = OUTSIDE;
            waits = 0;
            joinSent = 0;
        }

        boolean isOther(int x) {
            return x != node && world.holds(x, copy.shard);
        }

        boolean isInMask(int x) {
            return (view[V_MASK] >> x & 1) == 1;
        }

        /** Whether this is a PRIMARY that has something of node x. */
        private boolean leads(int x) {
            return role == PRIMARY && isOther(x) && state[x] > 0;
        }

        private void setOther(int x, int newState, int newHas, int newHeard) {
            state[x] = newState;
            has[x] = newHas;
            saw[x] = 0;
            heard[x] = newHeard;
        }

        private void stepDown(int newRole) {
            role = newRole;
            waits = 0;
        }

        // ---- what any COPY does

        private void ack(int to) {
            world.send(node, to, ACK).with(copy.shard, copy.term, copy.last, copy.shown, 0);
        }

        private void join() {
            world.send(node, view[V_PRIMARY], JOIN).with(copy.shard, copy.last, 0, 0, 0);
            joinSent = world.now;
        }

        /** Whether a REPL or SHOWTO of TERM t is heeded; one of a TERM that is new here is answered with WANT. */
        private boolean heeds(int from, int t) {
            if (t < copy.term || role == PRIMARY) {
                return false;
            }
            if (t > copy.term) {
                world.send(node, from, WANT).with(copy.shard, t, 0, 0, 0);
                return false;
            }
            return true;
        }

        void onRepl(int from, Message m) {
            if (!heeds(from, m.numbers[1])) {
                return;
            }
            copy.raiseSure(m.numbers[4]);
            if (m.numbers[2] == copy.last + 1) {
                copy.append(m.numbers[3], m.numbers[1]);
                copy.raiseSure(m.numbers[4]);
            }
            ack(from);
        }

        void onShowTo(int from, Message m) {
            int number = m.numbers[2];
            if (!heeds(from, m.numbers[1]) || copy.last < number) {
                return;
            }
            copy.raiseSure(number);
            if (number > copy.shown) {
                copy.showUpTo(number);
            }
            ack(from);
        }

        void onSync(int from, Message m) {
            int t = m.numbers[S_TERM];
            if (t < copy.term || t == copy.term && role == PRIMARY) {
                return;
            }
            if (role == PRIMARY) {
                stepDown(FOLLOWER);
            }
            copy.follow(m);
            ack(from);
        }

        void onConfig(Message m) {
            if (m.numbers[4] <= view[V_VERSION]) {
                return;
            }
            System.arraycopy(m.numbers, 1, view, 0, VIEW_NUMBERS);
            if (view[V_PRIMARY] == node) {
                if (role == PRIMARY && copy.term == view[V_TERM]) {
                    adjust();
                } else if (view[V_TERM] > copy.term) {
                    become();
                } else {
                    stepDown(FOLLOWER);
                }
            } else if (isInMask(node)) {
                stepDown(FOLLOWER);
            } else {
                stepDown(OUTSIDE);
                join();
            }
        }

        // ---- what a PRIMARY does

        private void become() {
            copy.cutTo(copy.last, view[V_TERM]);
            role = PRIMARY;
            waits = 0;
            for (int x = 0; x < world.nodes; x++) {
                setOther(x, isOther(x) && isInMask(x) ? IN : 0, NONE, world.now);
                counts[x] = 0;
            }
            for (int x = 0; x < world.nodes; x++) {
                if (state[x] == IN) {
                    syncWith(x);
                }
            }
            settle();
        }

        private void adjust() {
            for (int x = 0; x < world.nodes; x++) {
                if (!isOther(x)) {
                    continue;
                }
                if (!isInMask(x)) {
                    state[x] = state[x] == IN ? 0 : state[x];
                } else if (state[x] == 0) {
                    setOther(x, IN, NONE, world.now);
                    syncWith(x);
                } else if (state[x] == JOINING || state[x] == TRACKED) {
                    state[x] = IN;
                }
            }
            settle();
        }

        private void syncWith(int x) {
            Message sync = world.send(node, x, SYNC);
            sync.with(copy.shard, copy.term, copy.base, copy.sure, copy.last);
            sync.numbers[S_SHOWN] = copy.shown;
            sync.carry(copy);
            sent[x] = world.now;
        }

        private void settle() {
            int least = copy.last;
            for (int x = 0; x < world.nodes; x++) {
                if (state[x] >= TRACKED) {
                    least = Math.min(least, has[x]);
                }
            }
            for (int number = copy.sure + 1; number <= least; number++) {
                copy.sure = number;
                world.sendDone(node, copy.actAt(number));
            }
            int left = 0;
            for (int i = 0; i < waits; i++) {
                if (isSeen(waitingFor[i])) {
                    world.sendDone(node, waiting[i]);
                } else {
                    waiting[left] = waiting[i];
                    waitingFor[left] = waitingFor[i];
                    left++;
                }
            }
            waits = left;
        }

        private boolean isSeen(int number) {
            boolean seen = number <= copy.shown;
            for (int x = 0; x < world.nodes; x++) {
                if (state[x] >= TRACKED && saw[x] < number) {
                    seen = false;
                }
            }
            return seen;
        }

        void onWrite(int from, Message m) {
            int r = m.numbers[0];
            if (role != PRIMARY) {
                world.refuse(node, from, m);
                return;
            }
            int number = copy.numberOf(r);
            if (number != NONE) {
                if (number <= copy.sure) {
                    world.send(node, from, DONE).with(r, 0, 0, 0, 0);
                }
                return;
            }
            if (copy.last - copy.sure >= MOST_UNSURE) {
                world.refuse(node, from, m);
                return;
            }
            copy.append(r, copy.term);
            for (int x = 0; x < world.nodes; x++) {
                if (leads(x) && has[x] != NONE) {
                    sendRepl(x, copy.last);
                }
            }
            settle();
        }

        private void sendRepl(int x, int number) {
            world.send(node, x, REPL).with(copy.shard, copy.term, number, copy.actAt(number), copy.sure);
        }

        private void sendShowTo(int x) {
            world.send(node, x, SHOWTO).with(copy.shard, copy.term, copy.shown, 0, 0);
        }

        private void sendAdd(int x) {
            world.send(node, world.nodes, ADD).with(copy.shard, copy.term, x, view[V_VERSION], 0);
            sent[x] = world.now;
        }

        private void sendFail(int x) {
            world.send(node, world.nodes, FAIL).with(copy.shard, copy.term, x, counts[x], 0);
            heard[x] = world.now;
        }

        void onAck(int from, Message m) {
            if (!leads(from) || m.numbers[1] != copy.term) {
                return;
            }
            has[from] = m.numbers[2];
            saw[from] = m.numbers[3];
            heard[from] = world.now;
            if (state[from] == JOINING && has[from] == copy.last && saw[from] >= copy.shown) {
                state[from] = TRACKED;
                sendAdd(from);
            }
            settle();
        }

        void onWant(int from, Message m) {
            if (leads(from) && m.numbers[1] == copy.term) {
                syncWith(from);
            }
        }

        void onJoin(int from) {
            if (role != PRIMARY || !isOther(from) || state[from] == LEAVING) {
                return;
            }
            if (state[from] == 0) {
                state[from] = JOINING;
                counts[from]++;
                saw[from] = 0;
            }
            has[from] = NONE;
            heard[from] = world.now;
            syncWith(from);
        }

        void onOut(Message m) {
            int x = m.numbers[2];
            if (leads(x) && m.numbers[1] == copy.term && state[x] == LEAVING && counts[x] == m.numbers[3]) {
                state[x] = 0;
                settle();
            }
        }

        void onShow(int from, Message m) {
            int r = m.numbers[0];
            if (role != PRIMARY) {
                world.refuse(node, from, m);
                return;
            }
            if (isWaiting(r)) {
                return;
            }
            if (waits >= MOST_WAITS) {
                world.refuse(node, from, m);
                return;
            }
            waiting[waits] = r;
            waitingFor[waits] = copy.sure;
            waits++;
            if (copy.sure > copy.shown) {
                copy.showUpTo(copy.sure);
            }
            for (int x = 0; x < world.nodes; x++) {
                if (leads(x) && has[x] != NONE && saw[x] < copy.shown) {
                    sendShowTo(x);
                }
            }
            settle();
        }

        private boolean isWaiting(int r) {
            for (int i = 0; i < waits; i++) {
                if (waiting[i] == r) {
                    return true;
                }
            }
            return false;
        }

        // ---- at a TICK

        void pulse() {
            if (role == OUTSIDE && view[V_VERSION] > 0 && world.now - joinSent >= REPEAT) {
                join();
            }
            for (int x = 0; x < world.nodes; x++) {
                if (leads(x)) {
                    tend(x);
                }
            }
        }

        private void tend(int x) {
            boolean late = world.now - heard[x] >= PATIENCE;
            boolean again = world.now - sent[x] >= REPEAT;
            if (state[x] == LEAVING) {
                if (late) {
                    sendFail(x);
                }
            } else if (has[x] == copy.last && saw[x] >= copy.shown) {
                heard[x] = world.now;
                if (state[x] == TRACKED && again) {
                    sendAdd(x);
                }
            } else if (state[x] != JOINING && late) {
                state[x] = LEAVING;
                sendFail(x);
            } else if (again) {
                bringOn(x);
            }
        }

        private void bringOn(int x) {
            if (has[x] == NONE) {
                syncWith(x);
                return;
            }
            if (has[x] < copy.base) {
                syncWith(x);
            } else {
                int end = Math.min(copy.last, has[x] + MOST_REPLS);
                for (int number = has[x] + 1; number <= end; number++) {
                    sendRepl(x, number);
                }
            }
            if (saw[x] < copy.shown) {
                sendShowTo(x);
            }
            sent[x] = world.now;
        }
    }

    /** 202 BLOCKS, and the RECORDS that are made for them. */
    private static final class Disk {
        final World world;
        final byte[] octets = new byte[BLOCKS * BLOCK];
        Node owner;
        int generation;
        // where the HALF that COUNTS begins, and where in it the next RECORD does
        int start;
        int end;
        // how much of the shared image is made, and where its open RECORD begins
        int made;
        int opened;

        Disk(World world) {
            this.world = world;
        }

        void begin(Node home) {
            owner = home;
            if (generation != 0) {
                Arrays.fill(octets, (byte) 0);
            }
            countFrom(0, firstBlockOf(0), 0);
        }

        private void countFrom(int counting, int firstBlock, int used) {
            generation = counting;
            start = firstBlock * BLOCK;
            end = used;
        }

        private static int after(int generation) {
            return generation >= LAST_GENERATION ? 1 : generation + 1;
        }

        private static int firstBlockOf(int generation) {
            return 2 + generation % 2 * HALF_BLOCKS;
        }

        boolean fits(int size) {
            return end + size <= HALF;
        }

        // ---- RECORDS are made in the image that all DISKS share

        void clearImage() {
            made = 0;
        }

        void open(int kind) {
            opened = made;
            if (made + 1 < HALF) {
                world.image[made] = (byte) kind;
                made += 2;
            }
        }

        void addOne(int value) {
            if (made < HALF) {
                world.image[made] = (byte) value;
                made++;
            }
        }

        void addTwo(int value) {
            if (made + 1 < HALF) {
                world.image[made] = (byte) (value >> 8);
                world.image[made + 1] = (byte) value;
                made += 2;
            }
        }

        void addText(int[] text) {
            for (int i = 0; i < text.length && made < HALF; i++) {
                world.image[made] = (byte) text[i];
                made++;
            }
        }

        void close() {
            if (opened + 1 < made && made < HALF) {
                world.image[opened + 1] = (byte) (made - opened - 2);
                world.image[made] = (byte) RECORD_END;
                made++;
            }
        }

        // ---- and written

        /** Writes the RECORD in the image behind the others. */
        void commit() {
            if (made == 0 || !fits(made)) {
                return;
            }
            int from = start + end;
            int to = from + made;
            for (int block = from / BLOCK; block * BLOCK < to; block++) {
                int low = Math.max(from, block * BLOCK);
                int high = Math.min(to, block * BLOCK + BLOCK);
                System.arraycopy(octets, block * BLOCK, world.block, 0, BLOCK);
                System.arraycopy(world.image, low - from, world.block, low - block * BLOCK, high - low);
                writeBlock(block, world.block, 0);
            }
            end += made;
        }

        /** The image becomes the other HALF, which COUNTS then. */
        void swap() {
            int next = after(generation);
            int first = firstBlockOf(next);
            Arrays.fill(world.image, made, HALF, (byte) 0);
            for (int i = 0; i < HALF_BLOCKS; i++) {
                if (!isSo(first + i, i * BLOCK)) {
                    writeBlock(first + i, world.image, i * BLOCK);
                }
            }
            Arrays.fill(world.block, (byte) 0);
            world.block[0] = (byte) next;
            writeBlock(next % 2, world.block, 0);
            countFrom(next, first, made);
        }

        private boolean isSo(int block, int at) {
            for (int i = 0; i < BLOCK; i++) {
                if (octets[block * BLOCK + i] != world.image[at + i]) {
                    return false;
                }
            }
            return true;
        }

        /** All that would be done behind a BLOCK that tears is left undone: who DELIVERS, or lets TICK or START, catches. */
        private void writeBlock(int block, byte[] from, int at) {
            world.written++;
            boolean tears = false;
            int many = BLOCK;
            if (owner != null && owner.failIn > 0) {
                owner.failIn--;
                tears = owner.failIn == 0;
                many = tears ? owner.failKeep : BLOCK;
            }
            System.arraycopy(from, at, octets, block * BLOCK, many);
            if (tears) {
                throw new IllegalStateException("the node fails at this block");
            }
        }

        // ---- and READ

        void choose() {
            int even = octets[0] & 255;
            int odd = octets[BLOCK] & 255;
            int counting = even == 0 || odd != 0 && after(even) == odd ? odd : even;
            countFrom(counting, firstBlockOf(counting), 0);
        }

        int oneAt(int at) {
            return at < 0 || at >= HALF ? 0 : octets[start + at] & 255;
        }

        int twoAt(int at) {
            return oneAt(at) << 8 | oneAt(at + 1);
        }

        /** The size of the RECORD at a place; 0 where RECORDS end. */
        int sizeAt(int at) {
            int size = oneAt(at + 1) + 3;
            return oneAt(at) == 0 || at + size > HALF || oneAt(at + size - 1) != RECORD_END ? 0 : size;
        }

        /** The RECORDS end here: what a torn one left behind them is wiped, its end first, so that it never looks whole. */
        void endAt(int at) {
            end = at;
            int block = (start + at) / BLOCK;
            int behind = start / BLOCK + HALF_BLOCKS;
            if (block + 1 < behind) {
                wipe(block + 1, 0);
            }
            if (block < behind) {
                wipe(block, at % BLOCK);
            }
        }

        private void wipe(int block, int keep) {
            boolean dirty = false;
            for (int i = 0; i < BLOCK; i++) {
                byte octet = octets[block * BLOCK + i];
                dirty = dirty || i >= keep && octet != 0;
                world.block[i] = i < keep ? octet : 0;
            }
            if (dirty) {
                writeBlock(block, world.block, 0);
            }
        }
    }

    /** A COPY's SEGMENTS. */
    private static final class Index {
        final World world;
        // one row more than SEGMENTS may stay: a fifth makes all one
        final int[][] documents = new int[MOST_SEGMENTS + 1][DOCUMENTS];
        final int[][] requests = new int[MOST_SEGMENTS + 1][DOCUMENTS];
        final int[][] live = new int[MOST_SEGMENTS + 1][DOCUMENTS];
        final int[] sizes = new int[MOST_SEGMENTS + 1];
        // no two SEGMENTS ever have the same stamp
        final int[] stamps = new int[MOST_SEGMENTS + 1];
        // the REQUEST of each document that is LIVE
        final int[] shown = new int[DOCUMENTS];
        int shard;
        int count;

        Index(World world) {
            this.world = world;
        }

        void begin(int shard) {
            this.shard = shard;
            count = 0;
            Arrays.fill(shown, NONE);
        }

        int liveIn(int g) {
            int sum = 0;
            for (int i = 0; i < sizes[g]; i++) {
                sum += live[g][i];
            }
            return sum;
        }

        /** Makes LIVE what wanted tells: the REQUEST of each document, or NONE. */
        void update(int[] wanted) {
            openSegment(count);
            for (int d = shard; d < DOCUMENTS; d++) {
                if (wanted[d] != shown[d]) {
                    unlive(d);
                    shown[d] = wanted[d];
                    addTo(count, d);
                }
            }
            if (sizes[count] > 0) {
                count++;
            }
            if (count > MOST_SEGMENTS) {
                openSegment(0);
                for (int d = shard; d < DOCUMENTS; d++) {
                    addTo(0, d);
                }
                count = 1;
            }
            leaveOutDead();
        }

        private void openSegment(int g) {
            sizes[g] = 0;
            world.stamps++;
            stamps[g] = world.stamps;
        }

        private void addTo(int g, int document) {
            if (shown[document] != NONE && sizes[g] < DOCUMENTS) {
                documents[g][sizes[g]] = document;
                requests[g][sizes[g]] = shown[document];
                live[g][sizes[g]] = 1;
                sizes[g]++;
            }
        }

        private void unlive(int document) {
            for (int g = 0; g < count; g++) {
                for (int i = 0; i < sizes[g]; i++) {
                    if (documents[g][i] == document) {
                        live[g][i] = 0;
                    }
                }
            }
        }

        private void leaveOutDead() {
            int left = 0;
            for (int g = 0; g < count; g++) {
                if (liveIn(g) > 0) {
                    exchange(left, g);
                    left++;
                }
            }
            count = left;
        }

        private void exchange(int a, int b) {
            int[] row = documents[a];
            documents[a] = documents[b];
            documents[b] = row;
            row = requests[a];
            requests[a] = requests[b];
            requests[b] = row;
            row = live[a];
            live[a] = live[b];
            live[b] = row;
            int number = sizes[a];
            sizes[a] = sizes[b];
            sizes[b] = number;
            number = stamps[a];
            stamps[a] = stamps[b];
            stamps[b] = number;
        }
    }

    /** The OCTETS of the SEGMENT that was asked for last: few are ever asked for, so none keeps its own. */
    private static final class SegmentOctets {
        static final int MOST_OCTETS = 16000;
        static final int MOST_WORDS = DOCUMENTS * (MOST_TEXT / 2);

        final byte[] octets = new byte[MOST_OCTETS];
        final long[] words = new long[MOST_WORDS];
        final long[] otherWords = new long[MOST_WORDS];
        // a document's place in the row, times 32, and the WORD's PLACE
        final int[] spots = new int[MOST_WORDS];
        final int[] otherSpots = new int[MOST_WORDS];
        int many;
        int size;
        int stamp;

        void write(World world, Index index, int g) {
            if (stamp == index.stamps[g]) {
                return;
            }
            stamp = index.stamps[g];
            size = 0;
            many = 0;
            int before = 0;
            addNumber(index.sizes[g]);
            for (int i = 0; i < index.sizes[g]; i++) {
                Request text = world.requestAt(index.requests[g][i]);
                addNumber(index.documents[g][i] - before);
                addNumber(text == null ? 0 : text.length);
                before = index.documents[g][i];
                if (text != null) {
                    gather(i, text.rows);
                }
            }
            sort();
            writeWords();
        }

        private void gather(int i, long[] rows) {
            for (int place = 0; place < rows.length; place++) {
                if (rows[place] != 0 && many < MOST_WORDS) {
                    words[many] = rows[place];
                    spots[many] = i * PLACES + place;
                    many++;
                }
            }
        }

        /** By WORDS alone, like ones as they stood: those stand by documents and PLACES already. */
        private void sort() {
            for (int width = 1; width < many; width *= 2) {
                for (int low = 0; low < many; low += 2 * width) {
                    merge(low, Math.min(low + width, many), Math.min(low + 2 * width, many));
                }
                System.arraycopy(otherWords, 0, words, 0, many);
                System.arraycopy(otherSpots, 0, spots, 0, many);
            }
        }

        private void merge(int low, int middle, int high) {
            int a = low;
            int b = middle;
            for (int i = low; i < high; i++) {
                boolean first = b >= high || a < middle && words[a] <= words[b];
                int from = first ? a : b;
                otherWords[i] = words[from];
                otherSpots[i] = spots[from];
                if (first) {
                    a++;
                } else {
                    b++;
                }
            }
        }

        private void writeWords() {
            int different = 0;
            for (int i = 0; i < many; i++) {
                if (i == 0 || words[i] != words[i - 1]) {
                    different++;
                }
            }
            addNumber(different);
            int start = 0;
            while (start < many) {
                int end = start + 1;
                while (end < many && words[end] == words[start]) {
                    end++;
                }
                writeWord(start == 0 ? 0L : words[start - 1], words[start]);
                writeSpots(start, end);
                start = end;
            }
        }

        private void writeWord(long before, long word) {
            int alike = 0;
            int length = 0;
            boolean same = true;
            long place = HIGHEST_PLACE;
            for (int i = 0; i < MOST_WORD && place > 0; i++) {
                long figure = word / place % BASE_37;
                same = same && figure != 0 && figure == before / place % BASE_37;
                alike += same ? 1 : 0;
                length += figure != 0 ? 1 : 0;
                place /= BASE_37;
            }
            addOctet(alike);
            addOctet(length - alike);
            place = HIGHEST_PLACE;
            for (int i = 0; i < length && place > 0; i++) {
                int figure = (int) (word / place % BASE_37);
                if (i >= alike) {
                    addOctet(figure <= 10 ? '0' + figure - 1 : 'a' + figure - 11);
                }
                place /= BASE_37;
            }
        }

        private void writeSpots(int start, int end) {
            int having = 1;
            for (int i = start + 1; i < end; i++) {
                if (spots[i] / PLACES != spots[i - 1] / PLACES) {
                    having++;
                }
            }
            addNumber(having);
            int before = 0;
            int at = start;
            while (at < end) {
                int document = spots[at] / PLACES;
                int stop = at + 1;
                while (stop < end && spots[stop] / PLACES == document) {
                    stop++;
                }
                addNumber(document - before);
                addNumber(stop - at);
                addNumber(spots[at] % PLACES);
                for (int i = at + 1; i < stop; i++) {
                    addNumber(spots[i] - spots[i - 1]);
                }
                before = document;
                at = stop;
            }
        }

        private void addNumber(int number) {
            int left = number;
            while (left >= 128) {
                addOctet(128 + left % 128);
                left /= 128;
            }
            addOctet(left);
        }

        private void addOctet(int octet) {
            if (size < MOST_OCTETS) {
                octets[size] = (byte) octet;
                size++;
            }
        }
    }

    /** THE KEEPER, who says which COPIES count. */
    private static final class Keeper {
        final World world;
        final Disk disk;
        final int[][] views = new int[MOST_SHARDS][VIEW_NUMBERS];
        final boolean[] alive = new boolean[MOST_NODES];
        final int[] heard = new int[MOST_NODES];

        Keeper(World world) {
            this.world = world;
            disk = new Disk(world);
        }

        void begin(Node home) {
            for (int shard = 0; shard < MOST_SHARDS; shard++) {
                views[shard][V_TERM] = 1;
                views[shard][V_PRIMARY] = world.firstPrimaryOf(shard);
                views[shard][V_MASK] = world.maskOf(shard);
                views[shard][V_VERSION] = 1;
            }
            hearAll();
            disk.begin(home);
            flush();
        }

        private void hearAll() {
            for (int x = 0; x < MOST_NODES; x++) {
                alive[x] = true;
                heard[x] = world.now;
            }
        }

        private void flush() {
            disk.clearImage();
            for (int shard = 0; shard < world.shards; shard++) {
                int[] view = views[shard];
                addView(shard, view[V_TERM], view[V_PRIMARY], view[V_MASK], view[V_VERSION]);
            }
            disk.swap();
        }

        private void addView(int shard, int term, int primary, int mask, int version) {
            disk.open(RECORD_VIEW);
            disk.addOne(shard);
            disk.addTwo(term);
            disk.addOne(primary);
            disk.addOne(mask);
            disk.addTwo(version);
            disk.close();
        }

        void load() {
            disk.choose();
            int at = 0;
            int size = disk.sizeAt(at);
            while (size > 0 && at < HALF) {
                readView(at);
                at += size;
                size = disk.sizeAt(at);
            }
            disk.endAt(at);
            hearAll();
        }

        private void readView(int at) {
            int shard = disk.oneAt(at + 2);
            if (disk.oneAt(at) == RECORD_VIEW && shard < MOST_SHARDS) {
                views[shard][V_TERM] = disk.twoAt(at + 3);
                views[shard][V_PRIMARY] = disk.oneAt(at + 5);
                views[shard][V_MASK] = disk.oneAt(at + 6);
                views[shard][V_VERSION] = disk.twoAt(at + 7);
            }
        }

        /** A new VIEW counts only behind its RECORD: a FLUSH for that has VIEWS as they were. */
        private void change(int shard, int term, int primary, int mask) {
            int[] view = views[shard];
            int version = view[V_VERSION] + 1;
            if (!disk.fits(VIEW_SIZE)) {
                flush();
            }
            disk.clearImage();
            addView(shard, term, primary, mask, version);
            disk.commit();
            view[V_TERM] = term;
            view[V_PRIMARY] = primary;
            view[V_MASK] = mask;
            view[V_VERSION] = version;
            for (int x = 0; x < world.nodes; x++) {
                if (world.holds(x, shard)) {
                    tellView(shard, x);
                }
            }
        }

        private void changeMask(int shard, int mask) {
            change(shard, views[shard][V_TERM], views[shard][V_PRIMARY], mask);
        }

        private void tellView(int shard, int x) {
            int[] view = views[shard];
            world.send(world.nodes, x, CONFIG)
                    .with(shard, view[V_TERM], view[V_PRIMARY], view[V_MASK], view[V_VERSION]);
        }

        private boolean isAlive(int x) {
            return x >= 0 && x < world.nodes && alive[x];
        }

        private boolean isInMask(int shard, int x) {
            return (views[shard][V_MASK] >> x & 1) == 1;
        }

        private void promote(int shard) {
            int before = views[shard][V_PRIMARY];
            int mask = views[shard][V_MASK];
            for (int x = 0; x < world.nodes; x++) {
                if (isInMask(shard, x) && alive[x]) {
                    int left = isAlive(before) ? mask : mask & ~(1 << before);
                    change(shard, views[shard][V_TERM] + 1, x, left);
                    return;
                }
            }
        }

        /** Whether a MESSAGE of a shard and a TERM is from who is its primary. */
        private boolean isFromPrimary(int from, Message m) {
            int shard = m.numbers[0];
            return shard >= 0 && shard < world.shards && views[shard][V_TERM] == m.numbers[1]
                    && views[shard][V_PRIMARY] == from;
        }

        void onRoute(int from, Message m) {
            Message map = world.send(world.nodes, from, MAP).with(m.numbers[0], m.numbers[1], 0, 0, 0);
            for (int shard = 0; shard < world.shards; shard++) {
                System.arraycopy(views[shard], 0, map.numbers, TOLD_NUMBERS + MAP_NUMBERS * shard, MAP_NUMBERS);
            }
        }

        void onAdd(int from, Message m) {
            if (!isFromPrimary(from, m)) {
                return;
            }
            int shard = m.numbers[0];
            int x = m.numbers[2];
            if (views[shard][V_VERSION] == m.numbers[3] && !isInMask(shard, x)) {
                changeMask(shard, views[shard][V_MASK] | 1 << x);
            } else {
                tellView(shard, from);
            }
        }

        void onFail(int from, Message m) {
            if (!isFromPrimary(from, m)) {
                return;
            }
            int shard = m.numbers[0];
            int x = m.numbers[2];
            if (isInMask(shard, x) && x != from) {
                changeMask(shard, views[shard][V_MASK] & ~(1 << x));
            }
            world.send(world.nodes, from, OUT).with(shard, m.numbers[1], x, m.numbers[3], 0);
        }

        /** HELLO and BEAT. */
        void onSign(int from, Message m) {
            if (from < 0 || from >= world.nodes) {
                return;
            }
            alive[from] = true;
            heard[from] = world.now;
            int promoted = 0;
            for (int shard = 0; shard < world.shards; shard++) {
                if (isInMask(shard, from) && !isAlive(views[shard][V_PRIMARY])) {
                    promoted |= 1 << shard;
                    promote(shard);
                }
            }
            for (int shard = 0; shard < world.shards; shard++) {
                if (!world.holds(from, shard) || (promoted >> shard & 1) == 1) {
                    continue;
                }
                boolean leads = views[shard][V_PRIMARY] == from;
                int version = m.numbers[TOLD_NUMBERS + 2 * shard];
                int term = m.numbers[TOLD_NUMBERS + 2 * shard + 1];
                boolean behind = m.kind == HELLO ? !leads : version < views[shard][V_VERSION];
                if (behind) {
                    tellView(shard, from);
                } else if (leads && (m.kind == HELLO || term != views[shard][V_TERM])) {
                    promote(shard);
                }
            }
        }

        /** THE KEEPER's TICK. */
        void watch() {
            for (int x = 0; x < world.nodes; x++) {
                boolean dies = alive[x] && world.now - heard[x] >= DEAD_AFTER;
                alive[x] = alive[x] && !dies;
                for (int shard = 0; dies && shard < world.shards; shard++) {
                    int primary = views[shard][V_PRIMARY];
                    if (primary == x) {
                        promote(shard);
                    } else if (isInMask(shard, x) && isAlive(primary)) {
                        changeMask(shard, views[shard][V_MASK] & ~(1 << x));
                    }
                }
            }
        }
    }
}
