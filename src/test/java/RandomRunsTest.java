import java.util.ArrayList;
import java.util.Arrays;
import java.util.List;
import java.util.Random;

/** Long runs of calls by chance (always the same ones), on the class and on the model, whose answers must be alike. */
public final class RandomRunsTest {
    private interface Call {
        long on(SearchCluster x);
    }

    private interface ModelCall {
        long on(Model m);
    }

    private static final String[] VOCABULARY = {"cat", "cats", "Cat", "running", "run", "runs", "the", "a", "an", "of",
        "flies", "fly", "ties", "boss", "bred", "red", "walked", "sing", "ring", "rings", "x1", "42", "4s", "thes",
        "theing", "internationals", "Internationing", "abcdefghijklies", "abcdefghijkl", "abcdefghijklmn", "dog", "do",
        "dogs", "ing", "ed", "s", "ss", "ies", "series", "b", "c2ing", "zz", "z"};

    // More than an object is promised to answer: how it stands late in a run is looked at, too.
    private static final int CALLS = 1200;

    private final Random chance;
    private final SearchCluster x = new SearchCluster();
    private final Model m = new Model();
    private final List<String> said = new ArrayList<>();
    private final int seed;
    private int n = 3;
    private int s = 2;
    private int c = 2;
    private int wrong;
    private int calls;
    private int fill;

    private RandomRunsTest(int seed) {
        this.seed = seed;
        chance = new Random(seed);
    }

    public static void main(String[] args) {
        int first = args.length > 0 ? Integer.parseInt(args[0]) : 0;
        int many = args.length > 1 ? Integer.parseInt(args[1]) : 170;
        int wrong = 0;
        for (int seed = first; seed < first + many && wrong < 3; seed++) {
            RandomRunsTest run = new RandomRunsTest(seed);
            run.go();
            wrong += run.wrong;
        }
        System.out.println(wrong == 0 ? many + " runs by chance agree with the model" : wrong + " runs disagree");
        if (wrong != 0) {
            System.exit(1);
        }
    }

    private int below(int bound) {
        return chance.nextInt(bound);
    }

    private boolean oneIn(int many) {
        return below(many) == 0;
    }

    /** Mostly a number that is fine, now and then one that is not. */
    private int any(int low, int high) {
        if (oneIn(60)) {
            int[] odd = {low - 1, high + 1, Integer.MIN_VALUE, Integer.MAX_VALUE, -1, high + 1000};
            return odd[below(odd.length)];
        }
        return low + below(high - low + 1);
    }

    private void go() {
        int style = seed % 17;
        if (!oneIn(8)) {
            n = 1 + below(5);
            s = 1 + below(4);
            c = 1 + below(Math.min(3, n));
            if (style == 2 || style >= 6) {
                n = 2 + below(3);
                s = oneIn(3) ? 2 : 1;
                c = 2 + below(Math.min(2, n - 1));
            }
            if (style == 15) {
                n = 1 + below(2);
                s = 4;
                c = 1;
            }
            both("make", q -> q.make(n, s, c), q -> q.make(n, s, c));
        }
        while (calls < CALLS && wrong == 0) {
            int before = calls;
            step(style);
            if (calls / 100 != before / 100) {
                compareDisks();
                compareSegments();
            }
        }
        compareDisks();
        compareSegments();
    }

    private void step(int style) {
        int dice = below(100);
        switch (style) {
            case 2: heavy(dice); break;
            case 3: byHand(dice); break;
            case 4: torn(dice); break;
            case 5: searching(dice); break;
            case 6: leaveBehind(); break;
            case 7: loseSome(); break;
            case 8: fillDisks(); break;
            case 9: outage(); break;
            case 10: waitMuch(); break;
            case 11: anyPhase(); break;
            case 12: partition(); break;
            case 13: burst(); break;
            case 14: fillExactly(); break;
            case 15: helloAgain(); break;
            case 16: loseKind(); break;
            default: mixed(dice);
        }
    }

    private void anyPhase() {
        switch (below(12)) {
            case 0: leaveBehind(); break;
            case 1: loseSome(); break;
            case 2: fillDisks(); break;
            case 3: outage(); break;
            case 4: waitMuch(); break;
            case 5: helloAgain(); break;
            case 6: partition(); break;
            case 7: burst(); break;
            case 8: fillExactly(); break;
            case 9: makeAgain(); break;
            case 10: loseKind(); break;
            default:
                for (int i = 0; i < 30; i++) {
                    mixed(below(100));
                }
        }
    }

    private void write(int documents, int times) {
        write(text());
        int node = below(n);
        int document = below(documents);
        both("put " + node + " " + document, q -> q.put(node, document), q -> q.put(node, document));
        run(times);
    }

    private void toggle(int node) {
        if (m.up(node)) {
            both("down " + node, q -> q.down(node), q -> q.down(node));
        } else {
            both("start " + node, q -> q.start(node) ? 1 : 0, q -> q.start(node) ? 1 : 0);
        }
    }

    private void startAll() {
        for (int node = 0; node <= n; node++) {
            if (!m.up(node)) {
                toggle(node);
            }
        }
    }

    /** A node is away while the others go on so far that their BASE is beyond it. */
    private void leaveBehind() {
        startAll();
        run(8);
        int node = below(n);
        toggle(node);
        int writes = 20 + below(90);
        for (int i = 0; i < writes; i++) {
            write(60, i % 3 == 0 ? 1 : 0);
            if (oneIn(12)) {
                refresh();
            }
            if (i == 10) {
                run(14);
            }
        }
        if (oneIn(3)) {
            breakSoon(node);
        }
        startAll();
        run(oneIn(2) ? 2 : 20);
    }

    /** As run(), but some MESSAGES are lost. */
    private void loseSome() {
        int odds = 3 + below(12);
        if (oneIn(3)) {
            write(12, 0);
        }
        if (oneIn(6)) {
            refresh();
        }
        if (oneIn(8)) {
            find();
        }
        if (oneIn(25)) {
            toggle(below(n + 1));
        }
        if (oneIn(15)) {
            startAll();
        }
        for (int i = 0; i <= n; i++) {
            for (int k = 0; k <= n; k++) {
                int from = i;
                int to = k;
                for (int left = m.link(from, to); left > 0; left--) {
                    if (oneIn(odds)) {
                        both("lose " + from + " " + to, q -> q.lose(from, to), q -> q.lose(from, to));
                    } else if (!oneIn(20)) {
                        both("deliver " + from + " " + to, q -> q.deliver(from, to), q -> q.deliver(from, to));
                    }
                }
            }
        }
        both("tick", q -> q.tick(), q -> q.tick());
    }

    /** Long texts of many documents, so that RECORDS do not fit any more. */
    private void fillDisks() {
        startAll();
        for (int i = 0; i < 40; i++) {
            int document = (fill++ * 7) % 100;
            int node = below(n);
            StringBuilder text = new StringBuilder();
            while (text.length() < 40) {
                text.append(oneIn(2) ? VOCABULARY[below(VOCABULARY.length)] : Integer.toString(below(1296), 36))
                        .append(' ');
            }
            text.setLength(oneIn(6) ? below(41) : 40);
            write(text.toString());
            both("put " + node + " " + document, q -> q.put(node, document), q -> q.put(node, document));
            if (oneIn(3)) {
                refresh();
            }
            if (oneIn(3)) {
                run(2);
            }
        }
        if (oneIn(2)) {
            breakSoon(below(n));
            toggle(below(n));
            run(14);
        }
    }

    private void outage() {
        for (int i = 0; i < 6; i++) {
            write(12, 2);
        }
        refresh();
        run(4);
        for (int node = 0; node < n; node++) {
            if (!oneIn(4) && m.up(node)) {
                toggle(node);
                run(below(3));
            }
        }
        if (oneIn(4)) {
            toggle(n);
        }
        run(below(20));
        for (int i = 0; i < n; i++) {
            int node = below(n + 1);
            if (!m.up(node)) {
                toggle(node);
                run(below(6));
            }
        }
        startAll();
        run(below(20));
    }

    private void waitMuch() {
        startAll();
        run(16);
        write(12, 4);
        int node = below(n);
        toggle(node);
        int many = 10 + below(30);
        for (int i = 0; i < many; i++) {
            refresh();
            if (oneIn(10)) {
                run(1);
            }
        }
        run(1 + below(12));
    }

    private void helloAgain() {
        for (int i = 0; i < 40; i++) {
            int node = below(n);
            toggle(node);
            if (oneIn(100)) {
                breakSoon(n);
            }
            both("deliver " + node + " " + n, q -> q.deliver(node, n), q -> q.deliver(node, n));
        }
        startAll();
        run(5);
    }

    /** For some time, some LINKS lose or hold all that is on them. */
    private void partition() {
        startAll();
        boolean[] loses = new boolean[100];
        boolean[] holds = new boolean[100];
        int cut = below(n + 1);
        for (int i = 0; i < 100; i++) {
            boolean bad = oneIn(3) ? i / 10 == cut || i % 10 == cut : oneIn(6);
            loses[i] = bad && oneIn(2);
            holds[i] = bad && !loses[i];
        }
        int rounds = 8 + below(25);
        for (int i = 0; i < rounds; i++) {
            if (oneIn(2)) {
                write(12, 0);
            }
            if (oneIn(6)) {
                refresh();
            }
            round(loses, holds);
        }
        if (oneIn(3)) {
            toggle(below(n + 1));
        }
        for (int i = 0; i < 6; i++) {
            round(new boolean[100], new boolean[100]);
        }
    }

    /** For some time, most MESSAGES of one kind from one node are lost. */
    private void loseKind() {
        startAll();
        int kind = new int[] {16, 16, 11, 14, 8, 7, 13, 12, 5, 6, 18}[below(11)];
        int who = below(n + 1);
        toggle(below(n));
        int rounds = 10 + below(30);
        for (int r = 0; r < rounds; r++) {
            if (r == 9) {
                startAll();
            }
            if (oneIn(3)) {
                write(12, 0);
            }
            for (int i = 0; i <= n; i++) {
                for (int k = 0; k <= n; k++) {
                    int from = i;
                    int to = k;
                    for (int left = m.link(from, to); left > 0; left--) {
                        if (from == who && m.message(from, to, 0, 0) == kind && !oneIn(12)) {
                            both("lose " + from + " " + to, q -> q.lose(from, to), q -> q.lose(from, to));
                        } else {
                            both("deliver " + from + " " + to, q -> q.deliver(from, to), q -> q.deliver(from, to));
                        }
                    }
                }
            }
            both("tick", q -> q.tick(), q -> q.tick());
        }
    }

    private void round(boolean[] loses, boolean[] holds) {
        for (int i = 0; i <= n; i++) {
            for (int k = 0; k <= n; k++) {
                int from = i;
                int to = k;
                for (int left = m.link(from, to); left > 0 && !holds[from * 10 + to]; left--) {
                    if (loses[from * 10 + to]) {
                        both("lose " + from + " " + to, q -> q.lose(from, to), q -> q.lose(from, to));
                    } else {
                        both("deliver " + from + " " + to, q -> q.deliver(from, to), q -> q.deliver(from, to));
                    }
                }
            }
        }
        both("tick", q -> q.tick(), q -> q.tick());
    }

    /** Much comes at once: LINKS are full, and ACTS are not SURE. */
    private void burst() {
        startAll();
        run(10);
        write(12, 1);
        if (m.told(1) == 0) {
            return;
        }
        int host = m.request(m.told(1) - 1, 2);
        for (int from = 0; from < n; from++) {
            for (int i = 0; i < m.link(from, host); i++) {
                if (m.message(from, host, i, 0) == 5) {
                    int at = from;
                    both("lose " + at + " " + host, q -> q.lose(at, host), q -> q.lose(at, host));
                }
            }
        }
        if (oneIn(2)) {
            toggle(below(n));
        }
        int many = 30 + below(60);
        for (int i = 0; i < many; i++) {
            write(12, 0);
        }
        run(3 + below(10));
        for (int i = 0; i < 12; i++) {
            find();
        }
        run(3);
    }

    /** Texts so long that a HALF is filled to its last octets, and then any RECORD. */
    private void fillExactly() {
        startAll();
        run(4);
        int primary = m.view(n, 0, 1);
        for (int i = 0; i < 60; i++) {
            int room = m.room(primary, 0);
            int size = room > 110 ? 40 : Math.max(0, Math.min(40, room - 12 - below(9)));
            write("abcdefghijklmnopqrstuvwxyz 0123456789 abc".substring(0, size));
            int document = fill++ % 100 / s * s;
            both("put " + primary + " " + document, q -> q.put(primary, document), q -> q.put(primary, document));
            run(2);
            if (room < 110) {
                if (oneIn(3)) {
                    breakSoon(below(n));
                }
                switch (below(3)) {
                    case 0:
                        both("refresh", q -> q.refresh(primary, 0), q -> q.refresh(primary, 0));
                        break;
                    case 1:
                        toggle(primary);
                        run(2);
                        startAll();
                        break;
                    default:
                        break;
                }
                run(below(4));
                return;
            }
        }
    }

    private void makeAgain() {
        int nn = any(1, 5);
        int ss = any(1, 4);
        int cc = any(1, 3);
        both("make " + nn + " " + ss + " " + cc, q -> q.make(nn, ss, cc), q -> q.make(nn, ss, cc));
        n = m.n;
        s = m.s;
        c = m.c;
    }

    private void breakSoon(int node) {
        int blocks = 1 + below(5);
        int k = below(64);
        both("fail " + node + " " + blocks + " " + k, q -> {
            q.fail(node, blocks, k);
            return 0;
        }, q -> {
            q.fail(node, blocks, k);
            return 0;
        });
    }

    private void mixed(int dice) {
        if (dice < 22) {
            put();
        } else if (dice < 28) {
            drop();
        } else if (dice < 36) {
            refresh();
        } else if (dice < 46) {
            find();
        } else if (oneIn(300)) {
            makeAgain();
        } else if (dice < 76) {
            run(oneIn(20) ? any(0, 60) : any(0, 4));
        } else if (dice < 88) {
            trouble();
        } else {
            hand();
        }
    }

    private void heavy(int dice) {
        if (dice < 60) {
            put();
        } else if (dice < 62) {
            drop();
        } else if (dice < 66) {
            refresh();
        } else if (dice < 67) {
            find();
        } else if (dice < 94) {
            run(any(1, 3));
        } else if (dice < 97) {
            trouble();
        } else {
            hand();
        }
    }

    private void byHand(int dice) {
        if (dice < 12) {
            put();
        } else if (dice < 14) {
            drop();
        } else if (dice < 18) {
            refresh();
        } else if (dice < 22) {
            find();
        } else if (dice < 24) {
            run(any(0, 3));
        } else if (dice < 28) {
            trouble();
        } else {
            hand();
        }
    }

    private void torn(int dice) {
        if (dice < 30) {
            put();
        } else if (dice < 33) {
            drop();
        } else if (dice < 40) {
            refresh();
        } else if (dice < 60) {
            run(any(1, 12));
        } else if (dice < 72) {
            int node = any(0, n);
            int blocks = oneIn(4) ? any(0, 1000) : any(0, 6);
            int k = any(0, 63);
            both("fail " + node + " " + blocks + " " + k, q -> {
                q.fail(node, blocks, k);
                return 0;
            }, q -> {
                q.fail(node, blocks, k);
                return 0;
            });
        } else if (dice < 90) {
            startSome();
        } else {
            trouble();
        }
    }

    private void searching(int dice) {
        if (dice < 30) {
            put();
        } else if (dice < 33) {
            drop();
        } else if (dice < 45) {
            refresh();
        } else if (dice < 70) {
            find();
        } else if (dice < 97) {
            run(any(0, 4));
        } else {
            trouble();
        }
    }

    private void put() {
        write(text());
        int node = any(0, n - 1);
        int document = oneIn(3) ? any(0, 99) : any(0, 12);
        both("put " + node + " " + document, q -> q.put(node, document), q -> q.put(node, document));
    }

    private void drop() {
        int node = any(0, n - 1);
        int document = any(0, 12);
        both("drop " + node + " " + document, q -> q.drop(node, document), q -> q.drop(node, document));
    }

    private void refresh() {
        int node = any(0, n - 1);
        int shard = any(0, s - 1);
        both("refresh " + node + " " + shard, q -> q.refresh(node, shard), q -> q.refresh(node, shard));
    }

    private void find() {
        write(question());
        int node = any(0, n - 1);
        int many = any(1, 10);
        both("find " + node + " " + many, q -> q.find(node, many), q -> q.find(node, many));
    }

    private void run(int times) {
        both("run " + times, q -> q.run(times), q -> q.run(times));
    }

    private void startSome() {
        int node = any(0, n);
        both("start " + node, q -> q.start(node) ? 1 : 0, q -> q.start(node) ? 1 : 0);
    }

    private void trouble() {
        int node = any(0, n);
        int dice = below(10);
        if (dice < 3) {
            both("down " + node, q -> q.down(node), q -> q.down(node));
        } else if (dice < 9) {
            startSome();
        } else {
            torn(65);
        }
    }

    private void hand() {
        int from = any(0, n);
        int to = oneIn(2) ? n : any(0, n);
        int dice = below(20);
        if (dice < 2) {
            both("tick", q -> q.tick(), q -> q.tick());
        } else if (dice < 4) {
            both("lose " + from + " " + to, q -> q.lose(from, to), q -> q.lose(from, to));
        } else if (dice < 12) {
            both("deliver " + from + " " + to, q -> q.deliver(from, to), q -> q.deliver(from, to));
        } else {
            both("deliver " + to + " " + from, q -> q.deliver(to, from), q -> q.deliver(to, from));
        }
    }

    private String text() {
        StringBuilder text = new StringBuilder();
        int words = below(9);
        for (int i = 0; i < words; i++) {
            text.append(VOCABULARY[below(VOCABULARY.length)]).append(" ,.-' ".charAt(below(6)));
        }
        while (oneIn(2) && text.length() < 40) {
            text.append((char) ('a' + below(26))).append((char) ('0' + below(10))).append(' ');
        }
        while (oneIn(3) && text.length() < 40) {
            text.append("ab9 c.d z").append(below(10)).append((char) ('a' + below(26)));
        }
        int most = oneIn(40) ? 60 : 40;
        if (text.length() > most) {
            text.setLength(most);
        }
        if (oneIn(50) && text.length() > 0) {
            text.setCharAt(below(text.length()), (char) below(256));
        }
        return text.toString();
    }

    private String question() {
        StringBuilder question = new StringBuilder();
        if (oneIn(30)) {
            return oneIn(2) ? "" : "   ";
        }
        int clauses = 1 + below(oneIn(6) ? 8 : 3);
        for (int i = 0; i < clauses; i++) {
            question.append(new String[] {"", "", "", "+", "-"}[below(5)]);
            int kind = below(6);
            String row = VOCABULARY[below(VOCABULARY.length)];
            if (kind == 0) {
                question.append(row, 0, 1 + below(row.length())).append('*');
            } else if (kind == 1) {
                question.append('"');
                int rows = 1 + below(oneIn(8) ? 5 : 3);
                for (int k = 0; k < rows; k++) {
                    question.append(VOCABULARY[below(VOCABULARY.length)]).append(oneIn(5) ? "  " : " ");
                }
                question.append('"');
            } else {
                question.append(row);
            }
            question.append(oneIn(4) ? "  " : " ");
        }
        if (oneIn(5) && question.length() > 0) {
            question.setCharAt(below(question.length()), " +-*\"a.\n\u00e4"
                    .charAt(below(9)));
        }
        if (oneIn(6)) {
            question.insert(0, ' ');
        }
        if (oneIn(2) && question.charAt(question.length() - 1) == ' ') {
            question.setLength(question.length() - 1);
        }
        if (question.length() > 60) {
            question.setLength(60);
        }
        return question.toString();
    }

    private void write(String text) {
        for (int i = 0; i < text.length(); i += 8) {
            int many = Math.min(8, text.length() - i);
            long octets = 0;
            for (int k = many - 1; k >= 0; k--) {
                octets = octets << 8 | text.charAt(i + k) & 255;
            }
            long sent = octets;
            if (oneIn(80)) {
                int odd = new int[] {0, 9, -1, Integer.MIN_VALUE, Integer.MAX_VALUE}[below(5)];
                both("draft odd " + odd, q -> q.draft(odd, sent), q -> q.draft(odd, sent));
            }
            both("draft " + text, q -> q.draft(many, sent), q -> q.draft(many, sent));
        }
    }

    private void both(String name, Call call, ModelCall modelCall) {
        said.add(name);
        compare(name, call, modelCall);
        if (!name.startsWith("draft")) {
            calls++;
            if (oneIn(2)) {
                compareSome();
            }
        }
    }

    private void compare(String name, Call call, ModelCall modelCall, int... arguments) {
        if (wrong != 0) {
            return;
        }
        long got = 0;
        long due = 0;
        Class<?> thrown = null;
        Class<?> dueThrown = null;
        try {
            got = call.on(x);
        } catch (RuntimeException e) {
            thrown = e.getClass();
        }
        try {
            due = modelCall.on(m);
        } catch (IndexOutOfBoundsException | IllegalArgumentException | IllegalStateException e) {
            dueThrown = e.getClass();
        }
        if (got != due || thrown != dueThrown) {
            wrong = 1;
            System.out.println("seed " + seed + ": " + name + " " + Arrays.toString(arguments) + " answered " + got
                    + " " + thrown + ", the model " + due + " " + dueThrown);
            for (int i = Math.max(0, said.size() - 12); i < said.size(); i++) {
                System.out.println("    call " + i + ": " + said.get(i));
            }
        }
    }

    private void compareSome() {
        // what lies beyond is asked for now and then alone: exceptions take time
        int beyond = oneIn(12) ? 1 : 0;
        for (int i = -beyond; i <= 6 + beyond; i++) {
            int what = i;
            compare("told", q -> q.told(what), q -> q.told(what), what);
        }
        for (int i = 0; i <= n; i++) {
            int node = i;
            compare("up", q -> q.up(node) ? 1 : 0, q -> q.up(node) ? 1 : 0, node);
            for (int k = 0; k < s; k++) {
                int shard = k;
                for (int w = 0; node == n && w < 4; w++) {
                    int what = w;
                    compare("view", q -> q.view(node, shard, what), q -> q.view(node, shard, what), node, shard, what);
                }
                if (beyond == 0 && !holds(node, shard)) {
                    continue;
                }
                for (int w = -beyond; w <= 8 + beyond; w++) {
                    int what = w;
                    compare("copy", q -> q.copy(node, shard, what), q -> q.copy(node, shard, what), node, shard, what);
                    compare("view", q -> q.view(node, shard, what), q -> q.view(node, shard, what), node, shard, what);
                }
                int o = below(n);
                for (int w = -beyond; w <= 3 + beyond; w++) {
                    int what = w;
                    compare("other",
                            q -> q.other(node, shard, o, what),
                            q -> q.other(node, shard, o, what), node, shard, o, what);
                }
                int number = below(70);
                compare("act",
                        q -> q.act(node, shard, number), q -> q.act(node, shard, number), node, shard, number);
            }
            int to = below(n + 1);
            compare("link", q -> q.link(node, to), q -> q.link(node, to), node, to);
            int place = below(3);
            for (int w = -beyond; w <= 5 + beyond; w++) {
                int what = w;
                compare("message",
                        q -> q.message(node, to, place, what),
                        q -> q.message(node, to, place, what), node, to, place, what);
            }
        }
        compareRequests(beyond);
        int node = below(n + 1);
        int document = below(14);
        for (int w = -beyond; w <= 2 + beyond; w++) {
            int what = w;
            compare("document",
                    q -> q.document(node, document, what), q -> q.document(node, document, what), node, document, what);
        }
    }

    private boolean holds(int node, int shard) {
        return node < n && Math.floorMod(node - shard, n) < c;
    }

    private void compareRequests(int beyond) {
        int count = x.told(1);
        for (int i = Math.max(0, count - 6); i < count + beyond; i++) {
            int r = i;
            for (int w = -beyond; w <= 5 + beyond; w++) {
                int what = w;
                compare("request", q -> q.request(r, what), q -> q.request(r, what), r, what);
            }
            int hits = r < count ? x.request(r, 5) : 0;
            for (int k = -beyond; k < hits + beyond; k++) {
                int h = k;
                compare("hit", q -> q.hit(r, h, 0), q -> q.hit(r, h, 0), r, h);
                compare("hit", q -> q.hit(r, h, 1), q -> q.hit(r, h, 1), r, h, 1);
            }
        }
    }

    private void compareDisks() {
        for (int i = 0; i <= n; i++) {
            int node = i;
            for (int k = 0; k < s; k++) {
                int shard = k;
                int octets = holds(node, shard) || node == n && shard == 0 ? 202 * 64 : 1;
                for (int at = 0; at < octets; at++) {
                    int block = at / 64;
                    int octet = at % 64;
                    compare("disk",
                            q -> q.disk(node, shard, block, octet),
                            q -> q.disk(node, shard, block, octet), node, shard, block, octet);
                }
            }
        }
        for (int d = 0; d < 100; d++) {
            int document = d;
            for (int i = 0; i < n; i++) {
                int node = i;
                for (int w = 0; w <= 2 && holds(node, d % s); w++) {
                    int what = w;
                    compare("document",
                            q -> q.document(node, document, what),
                            q -> q.document(node, document, what), node, document, what);
                }
            }
        }
    }

    private void compareSegments() {
        for (int i = 0; i <= n; i++) {
            int node = i;
            for (int k = 0; k < s; k++) {
                int shard = k;
                for (int l = 0; l <= (holds(node, shard) ? 4 : 0); l++) {
                    int g = l;
                    for (int w = -1; w <= 3; w++) {
                        int what = w;
                        compare("segment",
                                q -> q.segment(node, shard, g, what),
                                q -> q.segment(node, shard, g, what), node, shard, g, what);
                    }
                    int size = sizeOf(node, shard, g);
                    for (int w = -1; w <= size; w += size > 150 ? 1 + size / 100 : 1) {
                        int at = w;
                        compare("octet",
                                q -> q.octet(node, shard, g, at), q -> q.octet(node, shard, g, at), node, shard, g, at);
                    }
                }
            }
        }
    }

    private int sizeOf(int node, int shard, int g) {
        try {
            return m.segment(node, shard, g, 2);
        } catch (IndexOutOfBoundsException e) {
            return 0;
        }
    }
}
