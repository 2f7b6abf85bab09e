import java.io.ByteArrayOutputStream;
import java.util.ArrayDeque;
import java.util.ArrayList;
import java.util.Arrays;
import java.util.Comparator;
import java.util.HashMap;
import java.util.List;
import java.util.Map;
import java.util.Set;
import java.util.TreeMap;
import java.util.TreeSet;
import java.util.regex.Matcher;
import java.util.regex.Pattern;

/**
 * The document once more, written apart from the class and with the library's collections, for tests to compare with.
 * It is slow and makes objects freely: everything that can be worked out anew is.
 */
final class Model {
    /** What a BLOCK that tears throws. */
    private static final class Torn extends RuntimeException {
        private static final long serialVersionUID = 1L;
    }

    static final class Ask {
        int r, kind, host, item, came, tried, attempt, state;
        String text = "";
        List<Clause> clauses;
        boolean over;
        final Map<Integer, Mail> stats = new TreeMap<>();
        final Map<Integer, Mail> tops = new TreeMap<>();
        List<int[]> hits = new ArrayList<>();
    }

    static final class Clause {
        char sign;
        boolean star;
        final List<String> rows = new ArrayList<>();
    }

    static final class Mail {
        int kind, from;
        int[] told = new int[5];
        int[][] views;
        int[] versions, terms;
        int shown;
        TreeMap<Integer, Integer> documents;
        TreeSet<Integer> done;
        List<Act> acts;
        long d, t;
        List<Long> f = new ArrayList<>();
        List<int[]> hits = new ArrayList<>();
    }

    static final class Act {
        final int r, term;

        Act(int r, int term) {
            this.r = r;
            this.term = term;
        }
    }

    static final class Peer {
        int state, has, saw, heard, sent, count;
    }

    static final class Segment {
        final TreeMap<Integer, Integer> requests = new TreeMap<>();
        final TreeSet<Integer> live = new TreeSet<>();
    }

    static final class Store {
        final byte[][] blocks = new byte[202][64];
        int owner;
    }

    static final class Shard {
        int node, h, term, base, sure, shown, role, joinSent;
        TreeMap<Integer, Integer> baseDocuments = new TreeMap<>();
        TreeSet<Integer> baseDone = new TreeSet<>();
        List<Act> acts = new ArrayList<>();
        int[] view = new int[4];
        List<Segment> segments = new ArrayList<>();
        final TreeMap<Integer, Peer> peers = new TreeMap<>();
        List<int[]> waits = new ArrayList<>();
        final Store store = new Store();

        int last() {
            return base + acts.size();
        }
    }

    static final class Context {
        int r, a, h, born;
        TreeMap<Integer, Integer> documents;
    }

    static final class Machine {
        boolean up = true;
        int failIn, failKeep;
        final TreeMap<Integer, Shard> shards = new TreeMap<>();
        final TreeMap<Integer, Context> contexts = new TreeMap<>();
    }

    int n, s, c, now;
    long delivered, lost, written;
    List<Ask> asks;
    Map<Integer, ArrayDeque<Mail>> links;
    Machine[] machines;
    Store keeperStore;
    int[][] views;
    Set<Integer> alive;
    int[] heard;
    final ByteArrayOutputStream draft = new ByteArrayOutputStream();

    Model() {
        build(3, 2, 2);
    }

    // ---------------------------------------------------------------- the face

    int make(int nn, int ss, int cc) {
        if (nn < 1 || nn > 5 || ss < 1 || ss > 4 || cc < 1 || cc > 3 || cc > nn) {
            throw new IllegalArgumentException();
        }
        build(nn, ss, cc);
        return ss * cc;
    }

    int draft(int many, long octets) {
        if (many < 1 || many > 8 || draft.size() + many > 60) {
            throw new IllegalArgumentException();
        }
        for (int i = 0; i < many; i++) {
            draft.write((int) (octets >> 8 * i & 255));
        }
        return draft.size();
    }

    int put(int node, int document) {
        check(node >= 0 && node < n && document >= 0 && document < 100);
        byte[] octets = draft.toByteArray();
        boolean text = octets.length <= 40;
        for (byte o : octets) {
            text &= o >= 32 && o <= 126;
        }
        if (!text) {
            throw new IllegalArgumentException();
        }
        ready(node);
        draft.reset();
        return come(0, node, document, latin(octets), null);
    }

    int drop(int node, int document) {
        check(node >= 0 && node < n && document >= 0 && document < 100);
        ready(node);
        return come(1, node, document, "", null);
    }

    int refresh(int node, int shard) {
        check(node >= 0 && node < n && shard >= 0 && shard < s);
        ready(node);
        return come(2, node, shard, "", null);
    }

    int find(int node, int many) {
        check(node >= 0 && node < n);
        if (many < 1 || many > 10) {
            throw new IllegalArgumentException();
        }
        ready(node);
        String question = latin(draft.toByteArray());
        draft.reset();
        List<Clause> clauses = new ArrayList<>();
        int fault = parse(question, clauses);
        return fault >= 0 ? -2 - fault : come(3, node, many, "", clauses);
    }

    int request(int r, int what) {
        check(r >= 0 && r < asks.size() && what >= 0 && what <= 5);
        Ask ask = asks.get(r);
        int hits = ask.kind == 3 && ask.state == 1 ? ask.hits.size() : 0;
        return new int[] {ask.state, ask.kind, ask.host, ask.attempt, ask.came, hits}[what];
    }

    int hit(int r, int i, int what) {
        check(r >= 0 && r < asks.size() && i >= 0 && i < request(r, 5) && what >= 0 && what <= 1);
        return asks.get(r).hits.get(i)[what];
    }

    int link(int from, int to) {
        return lane(from, to).size();
    }

    int message(int from, int to, int i, int what) {
        ArrayDeque<Mail> lane = lane(from, to);
        check(i >= 0 && i < lane.size() && what >= 0 && what <= 5);
        Mail mail = new ArrayList<>(lane).get(i);
        return what == 0 ? mail.kind : mail.told[what - 1];
    }

    int deliver(int from, int to) {
        Mail mail = lane(from, to).poll();
        if (mail == null) {
            return 0;
        }
        delivered++;
        if (machines[to].up) {
            try {
                receive(mail, to);
            } catch (Torn torn) {
                fall(to);
            }
        }
        return mail.kind;
    }

    int lose(int from, int to) {
        Mail mail = lane(from, to).poll();
        return mail == null ? 0 : mail.kind;
    }

    int tick() {
        now++;
        for (int x = 0; x <= n; x++) {
            if (machines[x].up) {
                try {
                    if (x < n) {
                        tickNode(x);
                    } else {
                        tickKeeper();
                    }
                } catch (Torn torn) {
                    fall(x);
                }
            }
        }
        return now;
    }

    int run(int times) {
        if (times < 0 || times > 60) {
            throw new IllegalArgumentException();
        }
        int sum = 0;
        for (int i = 0; i < times; i++) {
            for (int from = 0; from <= n; from++) {
                for (int to = 0; to <= n; to++) {
                    for (int k = lane(from, to).size(); k > 0; k--) {
                        deliver(from, to);
                        sum++;
                    }
                }
            }
            tick();
        }
        return sum;
    }

    boolean up(int node) {
        check(node >= 0 && node <= n);
        return machines[node].up;
    }

    int down(int node) {
        check(node >= 0 && node <= n);
        return fall(node);
    }

    boolean start(int node) {
        check(node >= 0 && node <= n);
        if (machines[node].up) {
            throw new IllegalStateException();
        }
        machines[node].up = true;
        try {
            if (node == n) {
                readKeeper();
            } else {
                for (Shard shard : machines[node].shards.values()) {
                    readShard(shard);
                }
                send(node, n, 15);
            }
        } catch (Torn torn) {
            fall(node);
        }
        return machines[node].up;
    }

    void fail(int node, int m, int k) {
        check(node >= 0 && node <= n);
        if (m < 0 || m > 1000 || k < 0 || k > 63) {
            throw new IllegalArgumentException();
        }
        machines[node].failIn = m;
        machines[node].failKeep = k;
    }

    int copy(int node, int shard, int what) {
        Shard copy = shardAt(node, shard);
        check(what >= 0 && what <= 8);
        if (!machines[node].up) {
            return -1;
        }
        return new int[] {copy.term, copy.base, copy.last(), copy.sure, copy.shown, copy.role, copy.segments.size(),
            counting(copy.store), documentsAt(copy, copy.last()).size()}[what];
    }

    int other(int node, int shard, int x, int what) {
        Shard copy = shardAt(node, shard);
        check(x != node && x >= 0 && x < n && machines[x].shards.containsKey(shard) && what >= 0 && what <= 3);
        if (!machines[node].up || copy.role != 2) {
            return -1;
        }
        Peer peer = copy.peers.get(x);
        return new int[] {peer.state, peer.has, peer.saw, peer.count}[what];
    }

    int view(int node, int shard, int what) {
        check(node >= 0 && node <= n && shard >= 0 && shard < s && what >= 0 && what <= 3);
        int[] view = node == n ? views[shard] : shardAt(node, shard).view;
        return machines[node].up ? view[what] : -1;
    }

    int document(int node, int document, int what) {
        check(document >= 0 && document < 100 && what >= 0 && what <= 2);
        Shard copy = shardAt(node, document % s);
        if (!machines[node].up) {
            return -1;
        }
        int number = what == 0 ? copy.last() : copy.sure;
        Map<Integer, Integer> there = what == 2 ? indexed(copy) : documentsAt(copy, number);
        return there.getOrDefault(document, -1);
    }

    int act(int node, int shard, int number) {
        Shard copy = shardAt(node, shard);
        return machines[node].up && number > copy.base && number <= copy.last() ? actAt(copy, number).r : -1;
    }

    int disk(int node, int shard, int block, int i) {
        Store store = node == n && shard == 0 ? keeperStore : shardAt(node, shard).store;
        check(block >= 0 && block < 202 && i >= 0 && i < 64);
        return store.blocks[block][i] & 255;
    }

    int segment(int node, int shard, int g, int what) {
        Segment segment = segmentAt(node, shard, g);
        check(what >= 0 && what <= 2);
        return new int[] {segment.requests.size(), segment.live.size(), octets(segment).length}[what];
    }

    int octet(int node, int shard, int g, int i) {
        byte[] octets = octets(segmentAt(node, shard, g));
        check(i >= 0 && i < octets.length);
        return octets[i] & 255;
    }

    int told(int what) {
        check(what >= 0 && what <= 6);
        long onLinks = 0;
        for (ArrayDeque<Mail> lane : links.values()) {
            onLinks += lane.size();
        }
        long contexts = 0;
        for (Machine machine : machines) {
            contexts += machine.contexts.size();
        }
        return (int) new long[] {now, asks.size(), onLinks, delivered, lost, written, contexts}[what];
    }

    private Shard shardAt(int node, int shard) {
        check(node >= 0 && node < n && machines[node].shards.containsKey(shard));
        return machines[node].shards.get(shard);
    }

    private Segment segmentAt(int node, int shard, int g) {
        Shard copy = shardAt(node, shard);
        check(machines[node].up && g >= 0 && g < copy.segments.size());
        return copy.segments.get(g);
    }

    private static void check(boolean fine) {
        if (!fine) {
            throw new IndexOutOfBoundsException();
        }
    }

    private void ready(int node) {
        if (!machines[node].up || asks.size() >= 500) {
            throw new IllegalStateException();
        }
    }

    private static String latin(byte[] octets) {
        return new String(octets, java.nio.charset.StandardCharsets.ISO_8859_1);
    }

    // ---------------------------------------------------------------- 1 the cluster

    private void build(int nn, int ss, int cc) {
        n = nn;
        s = ss;
        c = cc;
        now = 0;
        delivered = 0;
        lost = 0;
        asks = new ArrayList<>();
        links = new HashMap<>();
        machines = new Machine[n + 1];
        for (int x = 0; x <= n; x++) {
            machines[x] = new Machine();
        }
        views = new int[s][];
        for (int h = 0; h < s; h++) {
            int mask = 0;
            for (int i = 0; i < c; i++) {
                mask |= 1 << (h + i) % n;
            }
            views[h] = new int[] {1, h % n, mask, 1};
        }
        for (int h = 0; h < s; h++) {
            for (int i = 0; i < c; i++) {
                Shard copy = new Shard();
                copy.node = (h + i) % n;
                copy.h = h;
                copy.store.owner = copy.node;
                copy.term = 1;
                copy.view = views[h].clone();
                copy.role = i == 0 ? 2 : 1;
                for (int k = 0; k < c; k++) {
                    if (k != i) {
                        Peer peer = new Peer();
                        peer.state = 3;
                        copy.peers.put((h + k) % n, peer);
                    }
                }
                machines[copy.node].shards.put(h, copy);
                flush(copy);
            }
        }
        keeperStore = new Store();
        keeperStore.owner = n;
        rewrite(keeperStore, allViews());
        hearAll();
        written = 0;
    }

    private void hearAll() {
        alive = new TreeSet<>();
        heard = new int[n];
        for (int x = 0; x < n; x++) {
            alive.add(x);
            heard[x] = now;
        }
    }

    private ArrayDeque<Mail> lane(int from, int to) {
        check(from >= 0 && from <= n && to >= 0 && to <= n);
        return links.computeIfAbsent(from * 10 + to, k -> new ArrayDeque<>());
    }

    private Mail send(int from, int to, int kind, int... told) {
        Mail mail = new Mail();
        mail.kind = kind;
        mail.from = from;
        System.arraycopy(told, 0, mail.told, 0, told.length);
        if (lane(from, to).size() == 60) {
            lost++;
        } else {
            lane(from, to).add(mail);
        }
        return mail;
    }

    private int come(int kind, int node, int item, String text, List<Clause> clauses) {
        Ask ask = new Ask();
        ask.r = asks.size();
        ask.kind = kind;
        ask.host = node;
        ask.item = item;
        ask.text = text;
        ask.clauses = clauses;
        ask.came = now;
        ask.tried = now;
        asks.add(ask);
        send(node, n, 1, ask.r, 0);
        return ask.r;
    }

    private int fall(int node) {
        machines[node].up = false;
        machines[node].contexts.clear();
        int failed = 0;
        for (Ask ask : asks) {
            if (ask.host == node && ask.state == 0) {
                ask.state = 2;
                failed++;
            }
        }
        return failed;
    }

    // ---------------------------------------------------------------- 2 disks

    private static int next(int generation) {
        return generation == 250 ? 1 : generation + 1;
    }

    private static int counting(Store store) {
        int a = store.blocks[0][0] & 255;
        int b = store.blocks[1][0] & 255;
        if (a == 0 || b == 0) {
            return a + b;
        }
        return next(a) == b ? b : a;
    }

    private static byte[] half(Store store, int which) {
        byte[] all = new byte[6400];
        for (int b = 0; b < 100; b++) {
            System.arraycopy(store.blocks[2 + 100 * which + b], 0, all, 64 * b, 64);
        }
        return all;
    }

    private static List<int[]> records(byte[] half) {
        List<int[]> found = new ArrayList<>();
        int at = 0;
        while (at + 3 <= 6400 && half[at] != 0 && at + 3 + (half[at + 1] & 255) <= 6400
                && (half[at + 2 + (half[at + 1] & 255)] & 255) == 255) {
            int[] record = new int[1 + (half[at + 1] & 255)];
            record[0] = half[at];
            for (int i = 1; i < record.length; i++) {
                record[i] = half[at + 1 + i] & 255;
            }
            found.add(record);
            at += 2 + record.length;
        }
        return found;
    }

    private static int endOf(byte[] half) {
        int end = 0;
        for (int[] record : records(half)) {
            end += 2 + record.length;
        }
        return end;
    }

    private static int two(int[] record, int i) {
        return record[i] * 256 + record[i + 1];
    }

    private void block(Store store, int number, byte[] content) {
        written++;
        Machine owner = machines[store.owner];
        if (owner.failIn == 1) {
            owner.failIn = 0;
            System.arraycopy(content, 0, store.blocks[number], 0, owner.failKeep);
            throw new Torn();
        }
        if (owner.failIn > 0) {
            owner.failIn--;
        }
        store.blocks[number] = content.clone();
    }

    private void rewrite(Store store, byte[] records) {
        int g = counting(store) == 0 ? 1 : next(counting(store));
        byte[] all = Arrays.copyOf(records, 6400);
        for (int b = 0; b < 100; b++) {
            byte[] content = Arrays.copyOfRange(all, 64 * b, 64 * b + 64);
            if (!Arrays.equals(content, store.blocks[2 + 100 * (g % 2) + b])) {
                block(store, 2 + 100 * (g % 2) + b, content);
            }
        }
        byte[] head = new byte[64];
        head[0] = (byte) g;
        block(store, g % 2, head);
    }

    /** All OCTETS of a SEGMENT; none if there is no such one. */
    byte[] octetsOf(int node, int shard, int g) {
        boolean there = node < n && machines[node].up && machines[node].shards.containsKey(shard)
                && g < machines[node].shards.get(shard).segments.size();
        return there ? octets(machines[node].shards.get(shard).segments.get(g)) : new byte[0];
    }

    /** How many octets are left in the HALF that COUNTS. */
    int room(int node, int shard) {
        Store store = shardAt(node, shard).store;
        return 6400 - endOf(half(store, counting(store) % 2));
    }

    private static boolean fits(Store store, byte[] record) {
        return endOf(half(store, counting(store) % 2)) + record.length <= 6400;
    }

    private void writeBehind(Store store, byte[] record) {
        int which = counting(store) % 2;
        byte[] all = half(store, which);
        int end = endOf(all);
        System.arraycopy(record, 0, all, end, record.length);
        for (int b = end / 64; b <= (end + record.length - 1) / 64; b++) {
            block(store, 2 + 100 * which + b, Arrays.copyOfRange(all, 64 * b, 64 * b + 64));
        }
    }

    private void wipe(Store store) {
        int which = counting(store) % 2;
        byte[] all = half(store, which);
        int end = endOf(all);
        Arrays.fill(all, end, 6400, (byte) 0);
        for (int b = end / 64 + 1; b >= end / 64; b--) {
            if (b < 100) {
                byte[] content = Arrays.copyOfRange(all, 64 * b, 64 * b + 64);
                if (!Arrays.equals(content, store.blocks[2 + 100 * which + b])) {
                    block(store, 2 + 100 * which + b, content);
                }
            }
        }
    }

    /** A RECORD of these numbers; each is its size (1 or 2) and its value in turn. */
    private static byte[] record(int kind, String text, int... sizesAndValues) {
        ByteArrayOutputStream inside = new ByteArrayOutputStream();
        for (int i = 0; i < sizesAndValues.length; i += 2) {
            if (sizesAndValues[i] == 2) {
                inside.write(sizesAndValues[i + 1] >> 8);
            }
            inside.write(sizesAndValues[i + 1]);
        }
        for (char o : text.toCharArray()) {
            inside.write(o);
        }
        ByteArrayOutputStream all = new ByteArrayOutputStream();
        all.write(kind);
        all.write(inside.size());
        all.writeBytes(inside.toByteArray());
        all.write(255);
        return all.toByteArray();
    }

    private byte[] actRecord(Shard copy, int number, Act act) {
        Ask ask = asks.get(act.r);
        return record(ask.kind == 0 ? 1 : 2, ask.kind == 0 ? ask.text : "",
                2, number, 2, act.term, 2, act.r, 2, copy.sure, 1, ask.item);
    }

    private void flush(Shard copy) {
        TreeMap<Integer, Integer> there = documentsAt(copy, copy.sure);
        TreeSet<Integer> done = new TreeSet<>(copy.baseDone);
        for (int number = copy.base + 1; number <= copy.sure; number++) {
            done.add(actAt(copy, number).r);
        }
        char[] bits = new char[63];
        for (int r : done) {
            bits[r / 8] |= (char) (1 << r % 8);
        }
        ByteArrayOutputStream all = new ByteArrayOutputStream();
        all.writeBytes(record(5, new String(bits), 2, copy.sure, 2, copy.term));
        for (Map.Entry<Integer, Integer> entry : there.entrySet()) {
            all.writeBytes(record(6, asks.get(entry.getValue()).text, 1, entry.getKey(), 2, entry.getValue()));
        }
        all.writeBytes(record(4, "", 2, copy.shown));
        for (int number = copy.sure + 1; number <= copy.last(); number++) {
            all.writeBytes(actRecord(copy, number, actAt(copy, number)));
        }
        rewrite(copy.store, all.toByteArray());
        copy.acts = new ArrayList<>(copy.acts.subList(copy.sure - copy.base, copy.acts.size()));
        copy.base = copy.sure;
        copy.baseDocuments = there;
        copy.baseDone = done;
    }

    private void readShard(Shard copy) {
        wipe(copy.store);
        copy.term = 0;
        copy.base = 0;
        copy.sure = 0;
        copy.shown = 0;
        copy.acts = new ArrayList<>();
        copy.baseDocuments = new TreeMap<>();
        copy.baseDone = new TreeSet<>();
        for (int[] record : records(half(copy.store, counting(copy.store) % 2))) {
            switch (record[0]) {
                case 1:
                case 2:
                    if (two(record, 1) == copy.last() + 1) {
                        copy.acts.add(new Act(two(record, 5), two(record, 3)));
                    }
                    copy.term = Math.max(copy.term, two(record, 3));
                    copy.sure = Math.max(copy.sure, two(record, 7));
                    break;
                case 3:
                    while (copy.last() > two(record, 1)) {
                        copy.acts.remove(copy.acts.size() - 1);
                    }
                    copy.term = Math.max(copy.term, two(record, 3));
                    break;
                case 4:
                    copy.shown = Math.max(copy.shown, two(record, 1));
                    break;
                case 5:
                    copy.base = two(record, 1);
                    copy.term = two(record, 3);
                    for (int r = 0; r < 500; r++) {
                        if ((record[5 + r / 8] >> r % 8 & 1) == 1) {
                            copy.baseDone.add(r);
                        }
                    }
                    break;
                default:
                    copy.baseDocuments.put(record[1], two(record, 2));
            }
        }
        copy.shown = Math.min(copy.last(), Math.max(copy.shown, copy.base));
        copy.sure = Math.min(copy.last(), Math.max(copy.sure, copy.shown));
        copy.role = 0;
        copy.view = new int[] {0, -1, 0, 0};
        copy.joinSent = 0;
        copy.waits = new ArrayList<>();
        copy.segments = new ArrayList<>();
        TreeMap<Integer, Integer> there = documentsAt(copy, copy.shown);
        if (!there.isEmpty()) {
            copy.segments.add(segmentOf(there));
        }
    }

    private byte[] allViews() {
        ByteArrayOutputStream all = new ByteArrayOutputStream();
        for (int h = 0; h < s; h++) {
            all.writeBytes(viewRecord(h, views[h]));
        }
        return all.toByteArray();
    }

    private static byte[] viewRecord(int h, int[] view) {
        return record(7, "", 1, h, 2, view[0], 1, view[1], 1, view[2], 2, view[3]);
    }

    private void readKeeper() {
        wipe(keeperStore);
        for (int[] record : records(half(keeperStore, counting(keeperStore) % 2))) {
            views[record[1]] = new int[] {two(record, 2), record[4], record[5], two(record, 6)};
        }
        hearAll();
    }

    // ---------------------------------------------------------------- 3 copies

    private static Act actAt(Shard copy, int number) {
        return copy.acts.get(number - copy.base - 1);
    }

    private TreeMap<Integer, Integer> documentsAt(Shard copy, int number) {
        TreeMap<Integer, Integer> there = new TreeMap<>(copy.baseDocuments);
        for (int i = copy.base + 1; i <= number; i++) {
            Ask ask = asks.get(actAt(copy, i).r);
            if (ask.kind == 0) {
                there.put(ask.item, ask.r);
            } else {
                there.remove(ask.item);
            }
        }
        return there;
    }

    private void append(Shard copy, int r, int term) {
        if (copy.last() - copy.base >= 60 && copy.sure > copy.base) {
            flush(copy);
        }
        Act act = new Act(r, term);
        if (!fits(copy.store, actRecord(copy, copy.last() + 1, act))) {
            flush(copy);
        }
        writeBehind(copy.store, actRecord(copy, copy.last() + 1, act));
        copy.acts.add(act);
    }

    private void cut(Shard copy, int m, int term) {
        byte[] record = record(3, "", 2, m, 2, term);
        if (!fits(copy.store, record)) {
            flush(copy);
        }
        writeBehind(copy.store, record);
        copy.acts = new ArrayList<>(copy.acts.subList(0, m - copy.base));
        copy.term = term;
    }

    private void show(Shard copy, int v) {
        if (!fits(copy.store, record(4, "", 2, v))) {
            flush(copy);
        }
        int w = Math.max(v, copy.base);
        writeBehind(copy.store, record(4, "", 2, w));
        index(copy, documentsAt(copy, w));
        copy.shown = w;
    }

    private static void raise(Shard copy, int u) {
        copy.sure = Math.max(copy.sure, Math.min(u, copy.last()));
    }

    private void settle(Shard copy) {
        int m = copy.last();
        for (Peer peer : copy.peers.values()) {
            if (peer.state >= 2) {
                m = Math.min(m, peer.has);
            }
        }
        while (copy.sure < m) {
            copy.sure++;
            int r = actAt(copy, copy.sure).r;
            send(copy.node, asks.get(r).host, 5, r);
        }
        List<int[]> still = new ArrayList<>();
        for (int[] wait : copy.waits) {
            boolean seen = wait[1] <= copy.shown;
            for (Peer peer : copy.peers.values()) {
                seen &= peer.state < 2 || wait[1] <= peer.saw;
            }
            if (seen) {
                send(copy.node, asks.get(wait[0]).host, 5, wait[0]);
            } else {
                still.add(wait);
            }
        }
        copy.waits = still;
    }

    private void sync(Shard copy, int x) {
        Mail mail = send(copy.node, x, 8, copy.h, copy.term, copy.base, copy.sure, copy.last());
        mail.shown = copy.shown;
        mail.documents = new TreeMap<>(copy.baseDocuments);
        mail.done = new TreeSet<>(copy.baseDone);
        mail.acts = new ArrayList<>(copy.acts);
        copy.peers.get(x).sent = now;
    }

    private void become(Shard copy, int t) {
        cut(copy, copy.last(), t);
        copy.role = 2;
        copy.waits = new ArrayList<>();
        for (Map.Entry<Integer, Peer> entry : copy.peers.entrySet()) {
            Peer peer = entry.getValue();
            peer.state = (copy.view[2] >> entry.getKey() & 1) == 1 ? 3 : 0;
            peer.has = -1;
            peer.saw = 0;
            peer.heard = now;
            peer.count = 0;
        }
        for (Map.Entry<Integer, Peer> entry : copy.peers.entrySet()) {
            if (entry.getValue().state == 3) {
                sync(copy, entry.getKey());
            }
        }
        settle(copy);
    }

    // ---------------------------------------------------------------- 4 messages

    private void receive(Mail mail, int to) {
        int[] t = mail.told;
        switch (mail.kind) {
            case 1: {
                Mail map = send(to, mail.from, 2, t[0], t[1]);
                map.views = new int[s][];
                for (int h = 0; h < s; h++) {
                    map.views[h] = views[h].clone();
                }
                return;
            }
            case 11:
                onAdd(mail);
                return;
            case 12:
                onFail(mail);
                return;
            case 15:
            case 16:
                onSign(mail);
                return;
            case 19:
                onOpen(mail, to);
                return;
            case 21:
                onScore(mail, to);
                return;
            case 2:
            case 4:
            case 5:
            case 20:
            case 22:
                onHost(mail);
                return;
            default:
                break;
        }
        int h = mail.kind == 3 ? asks.get(t[0]).item % s : mail.kind == 17 ? asks.get(t[0]).item : t[0];
        Shard copy = machines[to].shards.get(h);
        if (copy != null) {
            onCopy(mail, copy);
        }
    }

    private void onCopy(Mail mail, Shard copy) {
        int[] t = mail.told;
        int from = mail.from;
        boolean leads = copy.role == 2;
        Peer peer = copy.peers.get(from);
        switch (mail.kind) {
            case 3:
                onWrite(mail, copy);
                break;
            case 6:
                if (t[1] < copy.term || leads) {
                    break;
                }
                if (t[1] > copy.term) {
                    send(copy.node, from, 9, copy.h, t[1]);
                    break;
                }
                raise(copy, t[4]);
                if (t[2] == copy.last() + 1) {
                    append(copy, t[3], t[1]);
                    raise(copy, t[4]);
                }
                ack(copy, from);
                break;
            case 7:
                if (leads && copy.term == t[1] && peer != null && peer.state > 0) {
                    peer.has = t[2];
                    peer.saw = t[3];
                    peer.heard = now;
                    if (peer.state == 1 && t[2] == copy.last() && t[3] >= copy.shown) {
                        peer.state = 2;
                        send(copy.node, n, 11, copy.h, copy.term, from, copy.view[3]);
                        peer.sent = now;
                    }
                    settle(copy);
                }
                break;
            case 8:
                onSync(mail, copy);
                break;
            case 9:
                if (leads && copy.term == t[1] && peer != null && peer.state > 0) {
                    sync(copy, from);
                }
                break;
            case 10:
                if (leads && peer != null && peer.state != 4) {
                    if (peer.state == 0) {
                        peer.state = 1;
                        peer.count++;
                        peer.saw = 0;
                    }
                    peer.has = -1;
                    peer.heard = now;
                    sync(copy, from);
                }
                break;
            case 13: {
                Peer x = copy.peers.get(t[2]);
                if (leads && copy.term == t[1] && x != null && x.state == 4 && x.count == t[3]) {
                    x.state = 0;
                    settle(copy);
                }
                break;
            }
            case 14:
                onConfig(mail, copy);
                break;
            case 17:
                onShow(mail, copy);
                break;
            default:
                if (t[1] < copy.term || leads) {
                    break;
                }
                if (t[1] > copy.term) {
                    send(copy.node, from, 9, copy.h, t[1]);
                } else if (copy.last() >= t[2]) {
                    copy.sure = Math.max(copy.sure, t[2]);
                    if (t[2] > copy.shown) {
                        show(copy, t[2]);
                    }
                    ack(copy, from);
                }
        }
    }

    private void ack(Shard copy, int to) {
        send(copy.node, to, 7, copy.h, copy.term, copy.last(), copy.shown);
    }

    private void onWrite(Mail mail, Shard copy) {
        int r = mail.told[0];
        if (copy.role != 2) {
            send(copy.node, mail.from, 4, r, mail.told[1]);
            return;
        }
        boolean done = copy.baseDone.contains(r);
        boolean isSure = done;
        for (int number = copy.base + 1; number <= copy.last(); number++) {
            if (actAt(copy, number).r == r) {
                done = true;
                isSure = number <= copy.sure;
            }
        }
        if (done) {
            if (isSure) {
                send(copy.node, mail.from, 5, r);
            }
        } else if (copy.last() - copy.sure >= 30) {
            send(copy.node, mail.from, 4, r, mail.told[1]);
        } else {
            append(copy, r, copy.term);
            for (Map.Entry<Integer, Peer> entry : copy.peers.entrySet()) {
                if (entry.getValue().state > 0 && entry.getValue().has >= 0) {
                    send(copy.node, entry.getKey(), 6, copy.h, copy.term, copy.last(), r, copy.sure);
                }
            }
            settle(copy);
        }
    }

    private void onSync(Mail mail, Shard copy) {
        int t = mail.told[1];
        int b = mail.told[2];
        int u = mail.told[3];
        int l = mail.told[4];
        if (t < copy.term || copy.role == 2 && t == copy.term) {
            return;
        }
        if (copy.role == 2) {
            copy.role = 1;
            copy.waits = new ArrayList<>();
        }
        int m = Math.max(copy.sure, b);
        while (m < copy.last() && m < l && actAt(copy, m + 1).r == mail.acts.get(m - b).r) {
            m++;
        }
        if (copy.sure < b) {
            List<Act> kept = new ArrayList<>();
            for (int number = b + 1; number <= m; number++) {
                kept.add(actAt(copy, number));
            }
            copy.acts = kept;
            copy.base = b;
            copy.baseDocuments = new TreeMap<>(mail.documents);
            copy.baseDone = new TreeSet<>(mail.done);
            copy.sure = Math.max(b, Math.min(u, m));
            copy.term = t;
            flush(copy);
        } else if (m < copy.last() || t > copy.term) {
            cut(copy, m, t);
        }
        raise(copy, u);
        while (copy.last() < l) {
            append(copy, mail.acts.get(copy.last() - b).r, t);
            raise(copy, u);
        }
        if (mail.shown > copy.shown) {
            show(copy, mail.shown);
        }
        ack(copy, mail.from);
    }

    private void onConfig(Mail mail, Shard copy) {
        int t = mail.told[1];
        int p = mail.told[2];
        int m = mail.told[3];
        if (mail.told[4] <= copy.view[3]) {
            return;
        }
        copy.view = new int[] {t, p, m, mail.told[4]};
        if (p != copy.node) {
            copy.waits = new ArrayList<>();
            copy.role = (m >> copy.node & 1) == 1 ? 1 : 0;
            if (copy.role == 0) {
                send(copy.node, p, 10, copy.h, copy.last());
                copy.joinSent = now;
            }
        } else if (copy.role == 2 && copy.term == t) {
            for (Map.Entry<Integer, Peer> entry : copy.peers.entrySet()) {
                Peer peer = entry.getValue();
                if ((m >> entry.getKey() & 1) == 0) {
                    if (peer.state == 3) {
                        peer.state = 0;
                    }
                } else if (peer.state == 0) {
                    peer.state = 3;
                    peer.has = -1;
                    peer.saw = 0;
                    peer.heard = now;
                    sync(copy, entry.getKey());
                } else if (peer.state < 3) {
                    peer.state = 3;
                }
            }
            settle(copy);
        } else if (t > copy.term) {
            become(copy, t);
        } else {
            copy.role = 1;
            copy.waits = new ArrayList<>();
        }
    }

    private void onShow(Mail mail, Shard copy) {
        int r = mail.told[0];
        if (copy.role != 2) {
            send(copy.node, mail.from, 4, r, mail.told[1]);
            return;
        }
        for (int[] wait : copy.waits) {
            if (wait[0] == r) {
                return;
            }
        }
        if (copy.waits.size() == 20) {
            send(copy.node, mail.from, 4, r, mail.told[1]);
            return;
        }
        copy.waits.add(new int[] {r, copy.sure});
        if (copy.sure > copy.shown) {
            show(copy, copy.sure);
        }
        for (Map.Entry<Integer, Peer> entry : copy.peers.entrySet()) {
            Peer peer = entry.getValue();
            if (peer.state > 0 && peer.has >= 0 && peer.saw < copy.shown) {
                send(copy.node, entry.getKey(), 18, copy.h, copy.term, copy.shown);
            }
        }
        settle(copy);
    }

    // ---------------------------------------------------------------- 5 ticks and the keeper

    private void tickNode(int node) {
        Machine machine = machines[node];
        for (Shard copy : machine.shards.values()) {
            if (copy.role == 2) {
                for (Map.Entry<Integer, Peer> entry : copy.peers.entrySet()) {
                    if (entry.getValue().state > 0) {
                        tickPeer(copy, entry.getKey(), entry.getValue());
                    }
                }
            } else if (copy.role == 0 && copy.view[3] > 0 && now - copy.joinSent >= 3) {
                send(node, copy.view[1], 10, copy.h, copy.last());
                copy.joinSent = now;
            }
        }
        if (now % 2 == 0) {
            Mail beat = send(node, n, 16);
            beat.versions = new int[s];
            beat.terms = new int[s];
            for (Shard copy : machine.shards.values()) {
                beat.versions[copy.h] = copy.view[3];
                beat.terms[copy.h] = copy.role == 2 ? copy.term : 0;
            }
        }
        machine.contexts.values().removeIf(context -> now - context.born >= 12);
        for (Ask ask : asks) {
            if (ask.host == node && ask.state == 0) {
                if (now - ask.came == 40) {
                    ask.state = 2;
                } else if (now - ask.tried >= 8) {
                    ask.attempt++;
                    ask.tried = now;
                    send(node, n, 1, ask.r, ask.attempt);
                }
            }
        }
    }

    private void tickPeer(Shard copy, int x, Peer peer) {
        boolean behind = peer.has == -1 || peer.has != copy.last() || peer.saw < copy.shown;
        if (peer.state == 4) {
            if (now - peer.heard >= 9) {
                send(copy.node, n, 12, copy.h, copy.term, x, peer.count);
                peer.heard = now;
            }
            return;
        }
        if (!behind) {
            peer.heard = now;
            if (peer.state == 2 && now - peer.sent >= 3) {
                send(copy.node, n, 11, copy.h, copy.term, x, copy.view[3]);
                peer.sent = now;
            }
            return;
        }
        if ((peer.state == 2 || peer.state == 3) && now - peer.heard >= 9) {
            peer.state = 4;
            send(copy.node, n, 12, copy.h, copy.term, x, peer.count);
            peer.heard = now;
            return;
        }
        if (now - peer.sent < 3) {
            return;
        }
        if (peer.has == -1) {
            sync(copy, x);
            return;
        }
        if (peer.has < copy.base) {
            sync(copy, x);
        } else {
            for (int q = peer.has + 1; q <= peer.has + 4 && q <= copy.last(); q++) {
                send(copy.node, x, 6, copy.h, copy.term, q, actAt(copy, q).r, copy.sure);
            }
        }
        if (peer.saw < copy.shown) {
            send(copy.node, x, 18, copy.h, copy.term, copy.shown);
        }
        peer.sent = now;
    }

    private void tickKeeper() {
        for (int x = 0; x < n; x++) {
            if (alive.contains(x) && now - heard[x] >= 8) {
                alive.remove(x);
                for (int h = 0; h < s; h++) {
                    if (views[h][1] == x) {
                        promote(h);
                    } else if ((views[h][2] >> x & 1) == 1 && alive.contains(views[h][1])) {
                        change(h, views[h][0], views[h][1], views[h][2] - (1 << x));
                    }
                }
            }
        }
    }

    private void change(int h, int term, int primary, int mask) {
        int[] view = {term, primary, mask, views[h][3] + 1};
        if (!fits(keeperStore, viewRecord(h, view))) {
            rewrite(keeperStore, allViews());
        }
        writeBehind(keeperStore, viewRecord(h, view));
        views[h] = view;
        for (int x = 0; x < n; x++) {
            config(h, x);
        }
    }

    private void config(int h, int x) {
        if (machines[x].shards.containsKey(h)) {
            send(n, x, 14, h, views[h][0], views[h][1], views[h][2], views[h][3]);
        }
    }

    private boolean promote(int h) {
        for (int x = 0; x < n; x++) {
            if ((views[h][2] >> x & 1) == 1 && alive.contains(x)) {
                int before = views[h][1];
                int mask = alive.contains(before) ? views[h][2] : views[h][2] & ~(1 << before);
                change(h, views[h][0] + 1, x, mask);
                return true;
            }
        }
        return false;
    }

    private void onAdd(Mail mail) {
        int h = mail.told[0];
        int x = mail.told[2];
        if (views[h][0] == mail.told[1] && views[h][1] == mail.from) {
            if (views[h][3] == mail.told[3] && (views[h][2] >> x & 1) == 0) {
                change(h, views[h][0], views[h][1], views[h][2] + (1 << x));
            } else {
                config(h, mail.from);
            }
        }
    }

    private void onFail(Mail mail) {
        int h = mail.told[0];
        int x = mail.told[2];
        if (views[h][0] == mail.told[1] && views[h][1] == mail.from) {
            if ((views[h][2] >> x & 1) == 1 && x != mail.from) {
                change(h, views[h][0], views[h][1], views[h][2] - (1 << x));
            }
            send(n, mail.from, 13, h, mail.told[1], x, mail.told[3]);
        }
    }

    private void onSign(Mail mail) {
        int x = mail.from;
        alive.add(x);
        heard[x] = now;
        Set<Integer> promoted = new TreeSet<>();
        for (int h = 0; h < s; h++) {
            if (!alive.contains(views[h][1]) && (views[h][2] >> x & 1) == 1 && promote(h)) {
                promoted.add(h);
            }
        }
        for (int h : machines[x].shards.keySet()) {
            if (promoted.contains(h)) {
                continue;
            }
            if (mail.kind == 15) {
                if (views[h][1] == x) {
                    promote(h);
                } else {
                    config(h, x);
                }
            } else if (mail.versions[h] < views[h][3]) {
                config(h, x);
            } else if (views[h][1] == x && mail.terms[h] != views[h][0]) {
                promote(h);
            }
        }
    }

    // ---------------------------------------------------------------- 6 requests

    private void onHost(Mail mail) {
        Ask ask = asks.get(mail.told[0]);
        if (ask.state != 0) {
            return;
        }
        if (mail.kind == 5) {
            ask.state = 1;
            return;
        }
        if (ask.attempt != mail.told[1]) {
            return;
        }
        if (mail.kind == 2) {
            onMap(ask, mail);
        } else if (mail.kind == 4) {
            ask.over = true;
        } else if (!ask.over && mail.kind == 20) {
            ask.stats.put(mail.told[2], mail);
            if (ask.stats.size() == s) {
                scoreAll(ask);
            }
        } else if (!ask.over) {
            ask.tops.put(mail.told[2], mail);
            if (ask.tops.size() == s) {
                List<int[]> all = new ArrayList<>();
                for (Mail top : ask.tops.values()) {
                    all.addAll(top.hits);
                }
                ask.hits = best(all, ask.item);
                ask.state = 1;
            }
        }
    }

    private void onMap(Ask ask, Mail mail) {
        if (ask.kind < 2) {
            send(ask.host, mail.views[ask.item % s][1], 3, ask.r, ask.attempt);
        } else if (ask.kind == 2) {
            send(ask.host, mail.views[ask.item][1], 17, ask.r, ask.attempt);
        } else {
            ask.over = false;
            ask.stats.clear();
            ask.tops.clear();
            for (int h = 0; h < s; h++) {
                List<Integer> in = new ArrayList<>();
                for (int x = 0; x < n; x++) {
                    if ((mail.views[h][2] >> x & 1) == 1) {
                        in.add(x);
                    }
                }
                send(ask.host, in.get((ask.r + ask.attempt) % in.size()), 19, ask.r, ask.attempt, h);
            }
        }
    }

    private void scoreAll(Ask ask) {
        long d = 0;
        long t = 0;
        List<Long> f = new ArrayList<>();
        for (Mail stat : ask.stats.values()) {
            d += stat.d;
            t += stat.t;
            for (int i = 0; i < stat.f.size(); i++) {
                if (f.size() <= i) {
                    f.add(0L);
                }
                f.set(i, f.get(i) + stat.f.get(i));
            }
        }
        for (int h = 0; h < s; h++) {
            Mail stat = ask.stats.get(h);
            Mail score = send(ask.host, stat.from, 21, ask.r, ask.attempt, h, stat.told[3], (int) d);
            score.d = d;
            score.t = t;
            score.f = f;
        }
    }

    private static List<int[]> best(List<int[]> all, int most) {
        List<int[]> sorted = new ArrayList<>(all);
        sorted.sort(Comparator.<int[]>comparingInt(hit -> -hit[1]).thenComparingInt(hit -> hit[0]));
        return sorted.size() > most ? new ArrayList<>(sorted.subList(0, most)) : sorted;
    }

    // ---------------------------------------------------------------- 7 search

    private static final Pattern ROW = Pattern.compile("[A-Za-z0-9]+");
    private static final List<String> LITTLE = List.of("a", "an", "of", "the");
    // no octet
    private static final char END = 256;

    static String word(String row) {
        String w = row.toLowerCase(java.util.Locale.ROOT);
        if (w.length() > 12) {
            w = w.substring(0, 12);
        }
        if (w.matches("[a-z]+")) {
            if (w.matches(".{2,}ies")) {
                w = w.substring(0, w.length() - 3) + "y";
            } else if (w.matches(".{3,}ing")) {
                w = w.substring(0, w.length() - 3);
            } else if (w.matches(".{3,}ed")) {
                w = w.substring(0, w.length() - 2);
            } else if (w.matches(".{2,}[^s]s")) {
                w = w.substring(0, w.length() - 1);
            }
        }
        return LITTLE.contains(w) ? null : w;
    }

    /** The WORD at each place; null where there is none. */
    static List<String> words(String text) {
        List<String> rows = new ArrayList<>();
        Matcher matcher = ROW.matcher(text);
        while (matcher.find()) {
            rows.add(word(matcher.group()));
        }
        return rows;
    }

    private static int length(List<String> words) {
        int count = 0;
        for (String w : words) {
            count += w == null ? 0 : 1;
        }
        return count;
    }

    private static Segment segmentOf(Map<Integer, Integer> documents) {
        Segment segment = new Segment();
        segment.requests.putAll(documents);
        segment.live.addAll(documents.keySet());
        return segment;
    }

    private static TreeMap<Integer, Integer> indexed(Shard copy) {
        TreeMap<Integer, Integer> there = new TreeMap<>();
        for (Segment segment : copy.segments) {
            for (int d : segment.live) {
                there.put(d, segment.requests.get(d));
            }
        }
        return there;
    }

    private static void index(Shard copy, TreeMap<Integer, Integer> there) {
        TreeMap<Integer, Integer> before = indexed(copy);
        for (Segment segment : copy.segments) {
            segment.live.removeIf(d -> !segment.requests.get(d).equals(there.get(d)));
        }
        TreeMap<Integer, Integer> fresh = new TreeMap<>();
        for (Map.Entry<Integer, Integer> entry : there.entrySet()) {
            if (!entry.getValue().equals(before.get(entry.getKey()))) {
                fresh.put(entry.getKey(), entry.getValue());
            }
        }
        if (!fresh.isEmpty()) {
            copy.segments.add(segmentOf(fresh));
        }
        if (copy.segments.size() == 5) {
            TreeMap<Integer, Integer> all = indexed(copy);
            copy.segments.clear();
            copy.segments.add(segmentOf(all));
        }
        copy.segments.removeIf(segment -> segment.live.isEmpty());
    }

    private static void number(ByteArrayOutputStream out, int value) {
        if (value > 127) {
            out.write(value & 127 | 128);
            number(out, value >> 7);
        } else {
            out.write(value);
        }
    }

    private byte[] octets(Segment segment) {
        ByteArrayOutputStream out = new ByteArrayOutputStream();
        TreeMap<String, TreeMap<Integer, List<Integer>>> places = new TreeMap<>();
        number(out, segment.requests.size());
        int before = 0;
        int row = 0;
        for (Map.Entry<Integer, Integer> entry : segment.requests.entrySet()) {
            List<String> words = words(asks.get(entry.getValue()).text);
            number(out, entry.getKey() - before);
            number(out, length(words));
            before = entry.getKey();
            for (int place = 0; place < words.size(); place++) {
                if (words.get(place) != null) {
                    places.computeIfAbsent(words.get(place), w -> new TreeMap<>())
                            .computeIfAbsent(row, d -> new ArrayList<>()).add(place);
                }
            }
            row++;
        }
        number(out, places.size());
        String last = "";
        for (Map.Entry<String, TreeMap<Integer, List<Integer>>> entry : places.entrySet()) {
            String word = entry.getKey();
            int alike = 0;
            while (alike < last.length() && alike < word.length() && last.charAt(alike) == word.charAt(alike)) {
                alike++;
            }
            out.write(alike);
            out.write(word.length() - alike);
            out.writeBytes(word.substring(alike).getBytes(java.nio.charset.StandardCharsets.ISO_8859_1));
            last = word;
            number(out, entry.getValue().size());
            int rowBefore = 0;
            for (Map.Entry<Integer, List<Integer>> in : entry.getValue().entrySet()) {
                number(out, in.getKey() - rowBefore);
                rowBefore = in.getKey();
                number(out, in.getValue().size());
                int placeBefore = 0;
                for (int place : in.getValue()) {
                    number(out, place - placeBefore);
                    placeBefore = place;
                }
            }
        }
        return out.toByteArray();
    }

    /** Goes through a QUESTION octet by octet; answers the FAULT's place, or -1. */
    static int parse(String question, List<Clause> clauses) {
        String state = "gap";
        int seen = 0;
        int rows = 0;
        Clause clause = null;
        StringBuilder row = new StringBuilder();
        for (int i = 0; i <= question.length(); i++) {
            char o = i < question.length() ? question.charAt(i) : END;
            boolean figure = String.valueOf(o).matches("[A-Za-z0-9]");
            boolean ends = o == ' ' || o == END;
            String to = null;
            switch (state) {
                case "gap":
                    if (o == ' ' || o == END && seen > 0) {
                        to = "gap";
                    } else if (seen < 6 && (o == '+' || o == '-' || o == '"' || figure)) {
                        seen++;
                        rows = 0;
                        clause = new Clause();
                        clause.sign = o == '+' || o == '-' ? o : ' ';
                        to = o == '"' ? "quote" : figure ? "row" : "sign";
                    }
                    break;
                case "sign":
                    to = o == '"' ? "quote" : figure ? "row" : null;
                    break;
                case "row":
                    to = figure ? "row" : o == '*' ? "star" : ends ? "gap" : null;
                    break;
                case "star":
                case "closed":
                    to = ends ? "gap" : null;
                    break;
                case "quote":
                    to = o == ' ' ? "quote" : o == '"' && rows > 0 ? "closed" : figure && rows < 4 ? "quoted" : null;
                    break;
                default:
                    to = figure ? "quoted" : o == ' ' ? "quote" : o == '"' ? "closed" : null;
            }
            if (to == null) {
                return i;
            }
            boolean wasRow = state.equals("row") || state.equals("quoted");
            if (figure) {
                row.append(o);
                rows += wasRow ? 0 : 1;
            } else if (wasRow) {
                if (o == '*') {
                    String small = row.toString().toLowerCase(java.util.Locale.ROOT);
                    clause.rows.add(small.substring(0, Math.min(12, small.length())));
                    clause.star = true;
                } else {
                    clause.rows.add(word(row.toString()));
                }
                row.setLength(0);
            }
            if (to.equals("gap") && clause != null) {
                if (clause.rows.stream().anyMatch(w -> w != null)) {
                    clauses.add(clause);
                }
                clause = null;
            }
            state = to;
        }
        return -1;
    }

    private static int times(Clause clause, List<String> text) {
        if (clause.star) {
            return text.stream().anyMatch(w -> w != null && w.startsWith(clause.rows.get(0))) ? 1 : 0;
        }
        int times = 0;
        for (int p = 0; p < text.size(); p++) {
            boolean here = true;
            for (int i = 0; i < clause.rows.size(); i++) {
                String w = clause.rows.get(i);
                here &= w == null || p + i < text.size() && w.equals(text.get(p + i));
            }
            times += here ? 1 : 0;
        }
        return times;
    }

    private static long log(long x) {
        String bits = Long.toBinaryString(x);
        return 64L * (bits.length() - 1) + Long.parseLong((bits.substring(1) + "000000").substring(0, 6), 2);
    }

    /** A text's SCORE, or -1 when it is not FOUND. */
    private static long score(List<Clause> clauses, List<String> text, long d, long t, List<Long> f) {
        long sum = 0;
        boolean some = false;
        int at = 0;
        for (Clause clause : clauses) {
            long h = times(clause, text);
            long rare = 0;
            if (!clause.star) {
                for (String w : clause.rows) {
                    if (w != null) {
                        rare += log(2 * d + 2) - log(2 * f.get(at) + 1);
                        at++;
                    }
                }
            }
            if (clause.sign == '+' && h == 0 || clause.sign == '-' && h > 0) {
                return -1;
            }
            if (clause.sign != '-' && h > 0) {
                some = true;
                sum += clause.star ? 64 : rare * 2200 * h / (1000 * h + 300 + 900L * length(text) * d / t);
            }
        }
        return some ? sum : -1;
    }

    private void onOpen(Mail mail, int node) {
        int h = mail.told[2];
        Machine machine = machines[node];
        Shard copy = machine.shards.get(h);
        if (copy == null || (copy.view[2] >> node & 1) == 0 || machine.contexts.size() >= 8) {
            send(node, mail.from, 4, mail.told[0], mail.told[1]);
            return;
        }
        int number = 0;
        while (machine.contexts.containsKey(number)) {
            number++;
        }
        Context context = new Context();
        context.r = mail.told[0];
        context.a = mail.told[1];
        context.h = h;
        context.born = now;
        context.documents = indexed(copy);
        machine.contexts.put(number, context);
        long d = context.documents.size();
        Mail stats = send(node, mail.from, 20, context.r, context.a, h, number, (int) d);
        stats.d = d;
        for (int r : context.documents.values()) {
            stats.t += length(words(asks.get(r).text));
        }
        for (Clause clause : asks.get(context.r).clauses) {
            for (String w : clause.rows) {
                if (!clause.star && w != null) {
                    long f = 0;
                    for (int r : context.documents.values()) {
                        f += words(asks.get(r).text).contains(w) ? 1 : 0;
                    }
                    stats.f.add(f);
                }
            }
        }
    }

    private void onScore(Mail mail, int node) {
        Context context = machines[node].contexts.get(mail.told[3]);
        if (context == null || context.r != mail.told[0] || context.a != mail.told[1] || context.h != mail.told[2]) {
            send(node, mail.from, 4, mail.told[0], mail.told[1]);
            return;
        }
        machines[node].contexts.remove(mail.told[3]);
        Ask ask = asks.get(context.r);
        List<int[]> found = new ArrayList<>();
        for (Map.Entry<Integer, Integer> entry : context.documents.entrySet()) {
            long score = score(ask.clauses, words(asks.get(entry.getValue()).text), mail.d, mail.t, mail.f);
            if (score >= 0) {
                found.add(new int[] {entry.getKey(), (int) score});
            }
        }
        List<int[]> hits = best(found, ask.item);
        Mail top = send(node, mail.from, 22, context.r, context.a, context.h, hits.size());
        top.hits = hits;
    }
}
