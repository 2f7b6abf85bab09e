import java.util.Random;

/** Long runs of calls by chance (always the same ones), on the class and on the model, whose answers must be alike. */
public final class RandomRunsTest {
    private static final String[] VOCABULARY = {"cat", "cats", "Cat", "running", "run", "runs", "the", "a", "an", "of",
        "flies", "fly", "ties", "boss", "bred", "red", "walked", "sing", "ring", "rings", "x1", "42", "4s", "thes",
        "theing", "internationals", "Internationing", "abcdefghijklies", "abcdefghijkl", "abcdefghijkm",
        "abcdefghijklmn", "dog", "do",
        "dogs", "ing", "ed", "s", "ss", "ies", "series", "b", "c2ing", "zz", "z", "4cats", "9flies", "offing", "an1"};

    // With beyond: more than an object is promised to answer, for some states come late alone.
    private static final int CALLS_BEYOND = 2000;
    private static final int STYLES = 17;
    private static final int LOOK_AFTER = 15;

    private final Random chance;
    private final Pair pair;
    private final int seed;
    private final boolean beyond;
    private int looked;
    private int n = 3;
    private int s = 2;
    private int fill;

    private RandomRunsTest(int seed, boolean beyond) {
        this.seed = seed;
        this.beyond = beyond;
        chance = new Random(seed);
        pair = new Pair("seed " + seed, beyond);
    }

    public static void main(String[] args) {
        int first = args.length > 0 ? Integer.parseInt(args[0]) : 0;
        int many = args.length > 1 ? Integer.parseInt(args[1]) : 20 * STYLES;
        int wrong = runs(first, many, args.length > 2);
        System.out.println(wrong == 0 ? many + " runs by chance agree with the model" : wrong + " runs disagree");
        if (wrong != 0) {
            System.exit(1);
        }
    }

    /** Answers how many of these runs disagree, three at most. */
    static int runs(int first, int many, boolean beyond) {
        int wrong = 0;
        for (int seed = first; seed < first + many && wrong < 3; seed++) {
            RandomRunsTest run = new RandomRunsTest(seed, beyond);
            run.go();
            wrong += run.pair.wrong;
        }
        return wrong;
    }

    private int below(int bound) {
        return chance.nextInt(bound);
    }

    private boolean oneIn(int many) {
        return below(many) == 0;
    }

    /** Mostly a number that is fine, now and then one that is not. */
    private int any(int low, int high) {
        if (oneIn(60)) {
            int[] odd = {low - 1, high + 1, Integer.MIN_VALUE, Integer.MAX_VALUE, -1, high + 1000};
            return odd[below(odd.length)];
        }
        return low + below(high - low + 1);
    }

    private void go() {
        int style = seed % STYLES;
        if (!oneIn(8)) {
            n = 1 + below(5);
            s = 1 + below(4);
            int c = 1 + below(Math.min(3, n));
            if (style == 2 || style >= 6) {
                n = 2 + below(3);
                s = oneIn(3) ? 2 : 1;
                c = 2 + below(Math.min(2, n - 1));
            }
            if (style == 15) {
                n = 1 + below(2);
                s = 4;
                c = 1;
            }
            pair.make(n, s, c);
        }
        int disks = 0;
        while (!pair.full() && pair.changes() < CALLS_BEYOND && pair.wrong == 0) {
            step(style);
            if (pair.changes() / 130 != disks) {
                disks = pair.changes() / 130;
                compareSome();
            }
        }
        compareSome();
        if (beyond) {
            pair.compareAll();
        }
    }

    /** A DISK, and a node's documents and SEGMENTS. */
    private void compareSome() {
        int node = below(n);
        for (int shard = 0; shard < s; shard++) {
            if (pair.holds(node, shard)) {
                for (int g = 0; g <= 4; g++) {
                    pair.compareSegment(node, shard, g);
                }
            }
        }
        pair.compareDisk(node, node % s);
        pair.compareDisk(n, 0);
        for (int d = 0; d < 100; d += oneIn(2) ? 1 : 3) {
            pair.compareDocument(node, d, 0);
        }
        looked = pair.changes() - LOOK_AFTER;
        look();
    }

    private void step(int style) {
        switch (style) {
            case 2: heavy(below(100)); break;
            case 3: byHand(below(100)); break;
            case 4: torn(below(100)); break;
            case 5: searching(below(100)); break;
            case 6: leaveBehind(); break;
            case 7: loseSome(); break;
            case 8: fillDisks(); break;
            case 9: outage(); break;
            case 10: waitMuch(); break;
            case 11: anyPhase(); break;
            case 12: partition(); break;
            case 13: burst(); break;
            case 14: fillExactly(); break;
            case 15: helloAgain(); break;
            case 16: loseKind(); break;
            default: mixed(below(100));
        }
        look();
    }

    private void anyPhase() {
        switch (below(12)) {
            case 0: leaveBehind(); break;
            case 1: loseSome(); break;
            case 2: fillDisks(); break;
            case 3: outage(); break;
            case 4: waitMuch(); break;
            case 5: helloAgain(); break;
            case 6: partition(); break;
            case 7: burst(); break;
            case 8: fillExactly(); break;
            case 9: makeAgain(); break;
            case 10: loseKind(); break;
            default:
                for (int i = 0; i < 30; i++) {
                    mixed(below(100));
                    look();
                }
        }
    }

    // ---- single calls by chance

    private void mixed(int dice) {
        if (dice < 22) {
            put();
        } else if (dice < 28) {
            drop();
        } else if (dice < 36) {
            refresh();
        } else if (dice < 46) {
            find();
        } else if (oneIn(300)) {
            makeAgain();
        } else if (dice < 76) {
            run(oneIn(20) ? any(0, 60) : any(0, 4));
        } else if (dice < 88) {
            trouble();
        } else {
            hand();
        }
    }

    private void heavy(int dice) {
        if (dice < 60) {
            put();
        } else if (dice < 62) {
            drop();
        } else if (dice < 66) {
            refresh();
        } else if (dice < 67) {
            find();
        } else if (dice < 94) {
            run(any(1, 3));
        } else if (dice < 97) {
            trouble();
        } else {
            hand();
        }
    }

    private void byHand(int dice) {
        if (dice < 12) {
            put();
        } else if (dice < 14) {
            drop();
        } else if (dice < 18) {
            refresh();
        } else if (dice < 22) {
            find();
        } else if (dice < 24) {
            run(any(0, 3));
        } else if (dice < 28) {
            trouble();
        } else {
            hand();
        }
    }

    private void torn(int dice) {
        if (dice < 30) {
            put();
        } else if (dice < 33) {
            drop();
        } else if (dice < 40) {
            refresh();
        } else if (dice < 60) {
            run(any(1, 12));
        } else if (dice < 72) {
            pair.fail(any(0, n), oneIn(4) ? any(0, 1000) : any(0, 6), any(0, 63));
        } else if (dice < 90) {
            pair.start(any(0, n));
        } else {
            trouble();
        }
    }

    private void searching(int dice) {
        if (dice < 30) {
            put();
        } else if (dice < 33) {
            drop();
        } else if (dice < 45) {
            refresh();
        } else if (dice < 70) {
            find();
        } else if (dice < 97) {
            run(any(0, 4));
        } else {
            trouble();
        }
    }

    private void put() {
        write(text());
        pair.put(any(0, n - 1), oneIn(3) ? any(0, 99) : any(0, 12));
    }

    private void drop() {
        pair.drop(any(0, n - 1), any(0, 12));
    }

    private void refresh() {
        pair.refresh(any(0, n - 1), any(0, s - 1));
    }

    private void find() {
        write(question());
        pair.find(any(0, n - 1), any(1, 10));
    }

    private void run(int times) {
        pair.run(times);
    }

    private void trouble() {
        int dice = below(10);
        if (dice < 3) {
            pair.down(any(0, n));
        } else if (dice < 9) {
            pair.start(any(0, n));
        } else {
            torn(65);
        }
    }

    private void hand() {
        int from = any(0, n);
        int to = oneIn(2) ? n : any(0, n);
        int dice = below(20);
        if (dice < 2) {
            pair.tick();
        } else if (dice < 4) {
            pair.lose(from, to);
        } else if (dice < 12) {
            pair.deliver(from, to);
        } else {
            pair.deliver(to, from);
        }
    }

    private void makeAgain() {
        pair.make(any(1, 5), any(1, 4), any(1, 3));
        n = pair.m.n;
        s = pair.m.s;
    }

    // ---- what happens to clusters

    private void write(int documents, int times) {
        write(text());
        pair.put(below(n), below(documents));
        run(times);
        if (oneIn(4)) {
            look();
        }
    }

    private void toggle(int node) {
        if (pair.m.up(node)) {
            pair.down(node);
        } else {
            pair.start(node);
        }
    }

    private void breakSoon(int node) {
        pair.fail(node, 1 + below(5), below(64));
    }

    /** A node is away while the others go on so far that their BASE is beyond it. */
    private void leaveBehind() {
        pair.startAll();
        run(8);
        int node = below(n);
        toggle(node);
        int writes = 20 + below(90);
        for (int i = 0; i < writes; i++) {
            write(60, i % 3 == 0 ? 1 : 0);
            if (oneIn(12)) {
                refresh();
            }
            if (i == 10) {
                run(14);
            }
        }
        if (oneIn(3)) {
            breakSoon(node);
        }
        pair.startAll();
        run(oneIn(2) ? 2 : 20);
    }

    /** As run(), but some MESSAGES are lost. */
    private void loseSome() {
        int odds = 3 + below(12);
        if (oneIn(3)) {
            write(12, 0);
        }
        if (oneIn(6)) {
            refresh();
        }
        if (oneIn(8)) {
            find();
        }
        if (oneIn(25)) {
            toggle(below(n + 1));
        }
        if (oneIn(15)) {
            pair.startAll();
        }
        for (int from = 0; from <= n; from++) {
            for (int to = 0; to <= n; to++) {
                for (int left = pair.m.link(from, to); left > 0; left--) {
                    if (oneIn(odds)) {
                        pair.lose(from, to);
                    } else if (!oneIn(20)) {
                        pair.deliver(from, to);
                    }
                }
            }
        }
        pair.tick();
    }

    /** Long texts of many documents, so that RECORDS do not fit any more. */
    private void fillDisks() {
        pair.startAll();
        for (int i = 0; i < 40; i++) {
            StringBuilder text = new StringBuilder();
            while (text.length() < 40) {
                text.append(oneIn(2) ? VOCABULARY[below(VOCABULARY.length)] : Integer.toString(below(1296), 36))
                        .append(' ');
            }
            text.setLength(oneIn(6) ? below(41) : 40);
            fill++;
            pair.put(below(n), fill * 7 % 100, text.toString());
            if (oneIn(3)) {
                refresh();
            }
            if (oneIn(3)) {
                run(2);
            }
        }
        if (oneIn(2)) {
            breakSoon(below(n));
            toggle(below(n));
            run(14);
        }
    }

    private void outage() {
        for (int i = 0; i < 6; i++) {
            write(12, 2);
        }
        refresh();
        run(4);
        for (int node = 0; node < n; node++) {
            if (!oneIn(4) && pair.m.up(node)) {
                toggle(node);
                run(below(3));
            }
        }
        if (oneIn(4)) {
            toggle(n);
        }
        run(below(20));
        for (int i = 0; i < n; i++) {
            int node = below(n + 1);
            if (!pair.m.up(node)) {
                toggle(node);
                run(below(6));
                look();
            }
        }
        pair.startAll();
        run(below(20));
    }

    /** So many REFRESHES wait for one COPY that no more can. */
    private void waitMuch() {
        pair.startAll();
        run(16);
        write(12, 4);
        toggle(below(n));
        int many = 10 + below(30);
        for (int i = 0; i < many; i++) {
            refresh();
            if (oneIn(10)) {
                run(1);
                look();
            }
        }
        run(1 + below(12));
    }

    private void helloAgain() {
        for (int i = 0; i < 40; i++) {
            int node = below(n);
            toggle(node);
            if (oneIn(100)) {
                breakSoon(n);
            }
            pair.deliver(node, n);
        }
        pair.startAll();
        run(5);
    }

    /** For some time, some LINKS lose or hold all that is on them. */
    private void partition() {
        pair.startAll();
        boolean[] loses = new boolean[100];
        boolean[] holds = new boolean[100];
        int cut = below(n + 1);
        for (int i = 0; i < 100; i++) {
            boolean bad = oneIn(3) ? i / 10 == cut || i % 10 == cut : oneIn(6);
            loses[i] = bad && oneIn(2);
            holds[i] = bad && !loses[i];
        }
        int rounds = 8 + below(25);
        for (int i = 0; i < rounds; i++) {
            if (oneIn(2)) {
                write(12, 0);
            }
            if (oneIn(6)) {
                refresh();
            }
            round(loses, holds);
        }
        if (oneIn(3)) {
            toggle(below(n + 1));
        }
        for (int i = 0; i < 6; i++) {
            round(new boolean[100], new boolean[100]);
        }
    }

    private void round(boolean[] loses, boolean[] holds) {
        for (int from = 0; from <= n; from++) {
            for (int to = 0; to <= n; to++) {
                int lane = from * 10 + to;
                for (int left = pair.m.link(from, to); left > 0 && !holds[lane]; left--) {
                    if (loses[lane]) {
                        pair.lose(from, to);
                    } else {
                        pair.deliver(from, to);
                    }
                }
            }
        }
        pair.tick();
        look();
    }

    /** For some time, most MESSAGES of one kind from one node are lost. */
    private void loseKind() {
        pair.startAll();
        int kind = new int[] {16, 16, 11, 14, 8, 7, 13, 12, 5, 6, 18}[below(11)];
        int who = below(n + 1);
        toggle(below(n));
        int rounds = 10 + below(30);
        for (int r = 0; r < rounds; r++) {
            if (r == 9) {
                pair.startAll();
            }
            if (oneIn(3)) {
                write(12, 0);
            }
            for (int from = 0; from <= n; from++) {
                for (int to = 0; to <= n; to++) {
                    for (int left = pair.m.link(from, to); left > 0; left--) {
                        if (from == who && pair.m.message(from, to, 0, 0) == kind && !oneIn(12)) {
                            pair.lose(from, to);
                        } else {
                            pair.deliver(from, to);
                        }
                    }
                }
            }
            pair.tick();
            look();
        }
    }

    /** Much comes at once: LINKS are full, and ACTS are not SURE. */
    private void burst() {
        pair.startAll();
        run(10);
        write(12, 1);
        for (int from = 0; from < n; from++) {
            for (int host = 0; host < n; host++) {
                if (pair.m.link(from, host) > 0 && pair.m.message(from, host, 0, 0) == 5) {
                    pair.lose(from, host);
                }
            }
        }
        if (oneIn(2)) {
            toggle(below(n));
        }
        int many = 30 + below(60);
        for (int i = 0; i < many; i++) {
            write(12, 0);
        }
        run(3 + below(10));
        for (int i = 0; i < 12; i++) {
            find();
        }
        run(3);
    }

    /** Texts so long that a HALF is filled to its last octets, and then any RECORD. */
    private void fillExactly() {
        pair.startAll();
        run(4);
        int primary = pair.m.view(n, 0, 1);
        if (primary < 0) {
            // THE KEEPER tore again as soon as it was UP
            return;
        }
        for (int i = 0; i < 60; i++) {
            int room = pair.m.room(primary, 0);
            int size = room > 110 ? 40 : Math.max(0, Math.min(40, room - 12 - below(9)));
            fill++;
            pair.put(primary, fill % 100 / s * s,
                    "abcdefghijklmnopqrstuvwxyz 0123456789 abc".substring(0, size));
            run(2);
            if (room < 110) {
                look();
                if (oneIn(3)) {
                    breakSoon(below(n));
                }
                int dice = below(3);
                if (dice == 0) {
                    pair.refresh(primary, 0);
                } else if (dice == 1) {
                    toggle(primary);
                    run(2);
                    pair.startAll();
                }
                run(below(4));
                return;
            }
        }
    }

    // ---- texts

    private String text() {
        StringBuilder text = new StringBuilder();
        int words = below(9);
        for (int i = 0; i < words; i++) {
            text.append(VOCABULARY[below(VOCABULARY.length)]).append(" ,.-' ".charAt(below(6)));
        }
        while (oneIn(2) && text.length() < 40) {
            text.append((char) ('a' + below(26))).append((char) ('0' + below(10))).append(' ');
        }
        while (oneIn(3) && text.length() < 40) {
            text.append("ab9 c.d z").append(below(10)).append((char) ('a' + below(26)));
        }
        int most = oneIn(40) ? 60 : 40;
        if (text.length() > most) {
            text.setLength(most);
        }
        if (oneIn(50) && text.length() > 0) {
            text.setCharAt(below(text.length()), (char) below(256));
        }
        return text.toString();
    }

    private String question() {
        if (oneIn(30)) {
            return oneIn(2) ? "" : "   ";
        }
        StringBuilder question = new StringBuilder();
        int clauses = 1 + below(oneIn(6) ? 8 : 3);
        for (int i = 0; i < clauses; i++) {
            question.append(new String[] {"", "", "", "+", "-"}[below(5)]);
            int kind = below(6);
            String row = VOCABULARY[below(VOCABULARY.length)];
            if (kind == 0) {
                question.append(row, 0, 1 + below(row.length())).append('*');
            } else if (kind == 1) {
                question.append('"');
                int rows = 1 + below(oneIn(8) ? 5 : 3);
                for (int k = 0; k < rows; k++) {
                    question.append(VOCABULARY[below(VOCABULARY.length)]).append(oneIn(5) ? "  " : " ");
                }
                question.append('"');
            } else {
                question.append(row);
            }
            question.append(oneIn(4) ? "  " : " ");
        }
        if (oneIn(5)) {
            question.setCharAt(below(question.length()), " +-*\"a.\n\u00e4".charAt(below(9)));
        }
        if (oneIn(6)) {
            question.insert(0, ' ');
        }
        if (oneIn(2)) {
            question.setLength(question.length() - 1);
        }
        if (question.length() > 60) {
            question.setLength(60);
        }
        return question.toString();
    }

    private void write(String text) {
        if (oneIn(80)) {
            int[] odd = {0, 9, -1, Integer.MIN_VALUE, Integer.MAX_VALUE};
            pair.draft(odd[below(odd.length)], 0);
        }
        pair.write(text);
    }

    /** Compares some of how the cluster stands, now and then; what lies outside seldom, for exceptions take time. */
    private void look() {
        if (pair.changes() < looked + LOOK_AFTER) {
            return;
        }
        looked = pair.changes();
        int outside = oneIn(12) ? 1 : 0;
        pair.compareCounts(outside);
        for (int node = 0; node <= n; node++) {
            for (int shard = 0; shard < s; shard++) {
                pair.compareCopy(node, shard, outside);
                if (outside == 1 || pair.holds(node, shard)) {
                    pair.compareOther(node, shard, below(n), outside);
                    pair.compareAct(node, shard, below(70));
                }
            }
            pair.compareMessage(node, below(n + 1), below(3), outside);
        }
        int count = pair.m.told(1);
        for (int r = Math.max(0, count - 6); r < count + outside; r++) {
            pair.compareRequest(r, outside);
        }
        pair.compareDocument(below(n + 1), below(14), outside);
    }
}
