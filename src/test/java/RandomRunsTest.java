import java.util.ArrayList;
import java.util.Arrays;
import java.util.List;
import java.util.Random;

/** Long runs of calls by chance (always the same ones), on the class and on the model, whose answers must be alike. */
public final class RandomRunsTest {
    private interface Call {
        long on(SearchCluster x);
    }

    private interface ModelCall {
        long on(Model m);
    }

    private static final String[] VOCABULARY = {"cat", "cats", "Cat", "running", "run", "runs", "the", "a", "an", "of",
        "flies", "fly", "ties", "boss", "bred", "red", "walked", "sing", "ring", "rings", "x1", "42", "4s", "thes",
        "theing", "internationals", "Internationing", "abcdefghijklies", "abcdefghijkl", "abcdefghijklmn", "dog", "do",
        "dogs", "ing", "ed", "s", "ss", "ies", "series", "b", "c2ing", "zz", "z"};

    private final Random chance;
    private final SearchCluster x = new SearchCluster();
    private final Model m = new Model();
    private final List<String> said = new ArrayList<>();
    private final int seed;
    private int n = 3;
    private int s = 2;
    private int c = 2;
    private int wrong;

    private RandomRunsTest(int seed) {
        this.seed = seed;
        chance = new Random(seed);
    }

    public static void main(String[] args) {
        int first = args.length > 0 ? Integer.parseInt(args[0]) : 0;
        int many = args.length > 1 ? Integer.parseInt(args[1]) : 240;
        int wrong = 0;
        for (int seed = first; seed < first + many && wrong < 3; seed++) {
            RandomRunsTest run = new RandomRunsTest(seed);
            run.go();
            wrong += run.wrong;
        }
        System.out.println(wrong == 0 ? many + " runs by chance agree with the model" : wrong + " runs disagree");
        if (wrong != 0) {
            System.exit(1);
        }
    }

    private int below(int bound) {
        return chance.nextInt(bound);
    }

    private boolean oneIn(int many) {
        return below(many) == 0;
    }

    /** Mostly a number that is fine, now and then one that is not. */
    private int any(int low, int high) {
        if (oneIn(60)) {
            int[] odd = {low - 1, high + 1, Integer.MIN_VALUE, Integer.MAX_VALUE, -1, high + 1000};
            return odd[below(odd.length)];
        }
        return low + below(high - low + 1);
    }

    private void go() {
        int style = seed % 6;
        if (!oneIn(8)) {
            n = 1 + below(5);
            s = 1 + below(4);
            c = 1 + below(Math.min(3, n));
            if (style == 2) {
                n = 2 + below(3);
                s = 1;
                c = 2 + below(Math.min(2, n - 1));
            }
            both("make", q -> q.make(n, s, c), q -> q.make(n, s, c));
        }
        int calls = 480;
        for (int i = 0; i < calls && wrong == 0; i++) {
            step(style);
            compareSome();
            if (i % 40 == 39 || i == calls - 1) {
                compareDisks();
                compareSegments();
            }
        }
    }

    private void step(int style) {
        int dice = below(100);
        if (style == 2) {
            heavy(dice);
        } else if (style == 3) {
            byHand(dice);
        } else if (style == 4) {
            torn(dice);
        } else if (style == 5) {
            searching(dice);
        } else {
            mixed(dice);
        }
    }

    private void mixed(int dice) {
        if (dice < 22) {
            put();
        } else if (dice < 28) {
            drop();
        } else if (dice < 36) {
            refresh();
        } else if (dice < 46) {
            find();
        } else if (dice < 76) {
            run(oneIn(20) ? any(0, 60) : any(0, 4));
        } else if (dice < 88) {
            trouble();
        } else {
            hand();
        }
    }

    private void heavy(int dice) {
        if (dice < 60) {
            put();
        } else if (dice < 62) {
            drop();
        } else if (dice < 66) {
            refresh();
        } else if (dice < 67) {
            find();
        } else if (dice < 94) {
            run(any(1, 3));
        } else if (dice < 97) {
            trouble();
        } else {
            hand();
        }
    }

    private void byHand(int dice) {
        if (dice < 12) {
            put();
        } else if (dice < 14) {
            drop();
        } else if (dice < 18) {
            refresh();
        } else if (dice < 22) {
            find();
        } else if (dice < 24) {
            run(any(0, 3));
        } else if (dice < 28) {
            trouble();
        } else {
            hand();
        }
    }

    private void torn(int dice) {
        if (dice < 30) {
            put();
        } else if (dice < 33) {
            drop();
        } else if (dice < 40) {
            refresh();
        } else if (dice < 60) {
            run(any(1, 12));
        } else if (dice < 72) {
            int node = any(0, n);
            int blocks = oneIn(4) ? any(0, 1000) : any(0, 6);
            int k = any(0, 63);
            both("fail " + node + " " + blocks + " " + k, q -> {
                q.fail(node, blocks, k);
                return 0;
            }, q -> {
                q.fail(node, blocks, k);
                return 0;
            });
        } else if (dice < 90) {
            startSome();
        } else {
            trouble();
        }
    }

    private void searching(int dice) {
        if (dice < 30) {
            put();
        } else if (dice < 33) {
            drop();
        } else if (dice < 45) {
            refresh();
        } else if (dice < 70) {
            find();
        } else if (dice < 97) {
            run(any(0, 4));
        } else {
            trouble();
        }
    }

    private void put() {
        write(text());
        int node = any(0, n - 1);
        int document = oneIn(3) ? any(0, 99) : any(0, 12);
        both("put " + node + " " + document, q -> q.put(node, document), q -> q.put(node, document));
    }

    private void drop() {
        int node = any(0, n - 1);
        int document = any(0, 12);
        both("drop " + node + " " + document, q -> q.drop(node, document), q -> q.drop(node, document));
    }

    private void refresh() {
        int node = any(0, n - 1);
        int shard = any(0, s - 1);
        both("refresh " + node + " " + shard, q -> q.refresh(node, shard), q -> q.refresh(node, shard));
    }

    private void find() {
        write(question());
        int node = any(0, n - 1);
        int many = any(1, 10);
        both("find " + node + " " + many, q -> q.find(node, many), q -> q.find(node, many));
    }

    private void run(int times) {
        both("run " + times, q -> q.run(times), q -> q.run(times));
    }

    private void startSome() {
        int node = any(0, n);
        both("start " + node, q -> q.start(node) ? 1 : 0, q -> q.start(node) ? 1 : 0);
    }

    private void trouble() {
        int node = any(0, n);
        int dice = below(10);
        if (dice < 3) {
            both("down " + node, q -> q.down(node), q -> q.down(node));
        } else if (dice < 9) {
            startSome();
        } else {
            torn(65);
        }
    }

    private void hand() {
        int from = any(0, n);
        int to = oneIn(2) ? n : any(0, n);
        int dice = below(20);
        if (dice < 2) {
            both("tick", q -> q.tick(), q -> q.tick());
        } else if (dice < 4) {
            both("lose " + from + " " + to, q -> q.lose(from, to), q -> q.lose(from, to));
        } else if (dice < 12) {
            both("deliver " + from + " " + to, q -> q.deliver(from, to), q -> q.deliver(from, to));
        } else {
            both("deliver " + to + " " + from, q -> q.deliver(to, from), q -> q.deliver(to, from));
        }
    }

    private String text() {
        StringBuilder text = new StringBuilder();
        int words = below(9);
        for (int i = 0; i < words; i++) {
            text.append(VOCABULARY[below(VOCABULARY.length)]).append(" ,.-' ".charAt(below(6)));
        }
        while (oneIn(3) && text.length() < 40) {
            text.append("ab9 c.d z").append(below(10)).append((char) ('a' + below(26)));
        }
        int most = oneIn(40) ? 60 : 40;
        if (text.length() > most) {
            text.setLength(most);
        }
        if (oneIn(50) && text.length() > 0) {
            text.setCharAt(below(text.length()), (char) below(256));
        }
        return text.toString();
    }

    private String question() {
        StringBuilder question = new StringBuilder();
        int clauses = 1 + below(oneIn(6) ? 8 : 3);
        for (int i = 0; i < clauses; i++) {
            question.append(new String[] {"", "", "", "+", "-"}[below(5)]);
            int kind = below(6);
            String row = VOCABULARY[below(VOCABULARY.length)];
            if (kind == 0) {
                question.append(row, 0, 1 + below(row.length())).append('*');
            } else if (kind == 1) {
                question.append('"');
                int rows = 1 + below(oneIn(8) ? 5 : 3);
                for (int k = 0; k < rows; k++) {
                    question.append(VOCABULARY[below(VOCABULARY.length)]).append(oneIn(5) ? "  " : " ");
                }
                question.append('"');
            } else {
                question.append(row);
            }
            question.append(oneIn(4) ? "  " : " ");
        }
        if (oneIn(5) && question.length() > 0) {
            question.setCharAt(below(question.length()), " +-*\"a.\n\u00e4"
                    .charAt(below(9)));
        }
        if (oneIn(6)) {
            question.insert(0, ' ');
        }
        if (oneIn(2) && question.charAt(question.length() - 1) == ' ') {
            question.setLength(question.length() - 1);
        }
        if (question.length() > 60) {
            question.setLength(60);
        }
        return question.toString();
    }

    private void write(String text) {
        for (int i = 0; i < text.length(); i += 8) {
            int many = Math.min(8, text.length() - i);
            long octets = 0;
            for (int k = many - 1; k >= 0; k--) {
                octets = octets << 8 | text.charAt(i + k) & 255;
            }
            long sent = octets;
            both("draft " + text, q -> q.draft(many, sent), q -> q.draft(many, sent));
        }
    }

    private void both(String name, Call call, ModelCall modelCall) {
        said.add(name);
        compare(name, call, modelCall);
    }

    private void compare(String name, Call call, ModelCall modelCall, int... arguments) {
        if (wrong != 0) {
            return;
        }
        long got = 0;
        long due = 0;
        Class<?> thrown = null;
        Class<?> dueThrown = null;
        try {
            got = call.on(x);
        } catch (RuntimeException e) {
            thrown = e.getClass();
        }
        try {
            due = modelCall.on(m);
        } catch (IndexOutOfBoundsException | IllegalArgumentException | IllegalStateException e) {
            dueThrown = e.getClass();
        }
        if (got != due || thrown != dueThrown) {
            wrong = 1;
            System.out.println("seed " + seed + ": " + name + " " + Arrays.toString(arguments) + " answered " + got
                    + " " + thrown + ", the model " + due + " " + dueThrown);
            for (int i = Math.max(0, said.size() - 12); i < said.size(); i++) {
                System.out.println("    call " + i + ": " + said.get(i));
            }
        }
    }

    private void compareSome() {
        // what lies beyond is asked for now and then alone: exceptions take time
        int beyond = oneIn(12) ? 1 : 0;
        for (int i = -beyond; i <= 6 + beyond; i++) {
            int what = i;
            compare("told", q -> q.told(what), q -> q.told(what), what);
        }
        for (int i = 0; i <= n; i++) {
            int node = i;
            compare("up", q -> q.up(node) ? 1 : 0, q -> q.up(node) ? 1 : 0, node);
            for (int k = 0; k < s; k++) {
                int shard = k;
                for (int w = 0; node == n && w < 4; w++) {
                    int what = w;
                    compare("view", q -> q.view(node, shard, what), q -> q.view(node, shard, what), node, shard, what);
                }
                if (beyond == 0 && !holds(node, shard)) {
                    continue;
                }
                for (int w = -beyond; w <= 8 + beyond; w++) {
                    int what = w;
                    compare("copy", q -> q.copy(node, shard, what), q -> q.copy(node, shard, what), node, shard, what);
                    compare("view", q -> q.view(node, shard, what), q -> q.view(node, shard, what), node, shard, what);
                }
                int o = below(n);
                for (int w = -beyond; w <= 3 + beyond; w++) {
                    int what = w;
                    compare("other",
                            q -> q.other(node, shard, o, what),
                            q -> q.other(node, shard, o, what), node, shard, o, what);
                }
                int number = below(70);
                compare("act",
                        q -> q.act(node, shard, number), q -> q.act(node, shard, number), node, shard, number);
            }
            int to = below(n + 1);
            compare("link", q -> q.link(node, to), q -> q.link(node, to), node, to);
            int place = below(3);
            for (int w = -beyond; w <= 5 + beyond; w++) {
                int what = w;
                compare("message",
                        q -> q.message(node, to, place, what),
                        q -> q.message(node, to, place, what), node, to, place, what);
            }
        }
        compareRequests(beyond);
        int node = below(n + 1);
        int document = below(14);
        for (int w = -beyond; w <= 2 + beyond; w++) {
            int what = w;
            compare("document",
                    q -> q.document(node, document, what), q -> q.document(node, document, what), node, document, what);
        }
    }

    private boolean holds(int node, int shard) {
        return node < n && Math.floorMod(node - shard, n) < c;
    }

    private void compareRequests(int beyond) {
        int count = x.told(1);
        for (int i = Math.max(0, count - 6); i < count + beyond; i++) {
            int r = i;
            for (int w = -beyond; w <= 5 + beyond; w++) {
                int what = w;
                compare("request", q -> q.request(r, what), q -> q.request(r, what), r, what);
            }
            int hits = r < count ? x.request(r, 5) : 0;
            for (int k = -beyond; k < hits + beyond; k++) {
                int h = k;
                compare("hit", q -> q.hit(r, h, 0), q -> q.hit(r, h, 0), r, h);
                compare("hit", q -> q.hit(r, h, 1), q -> q.hit(r, h, 1), r, h, 1);
            }
        }
    }

    private void compareDisks() {
        for (int i = 0; i <= n; i++) {
            int node = i;
            for (int k = 0; k < s; k++) {
                int shard = k;
                int octets = holds(node, shard) || node == n && shard == 0 ? 202 * 64 : 1;
                for (int at = 0; at < octets; at++) {
                    int block = at / 64;
                    int octet = at % 64;
                    compare("disk",
                            q -> q.disk(node, shard, block, octet),
                            q -> q.disk(node, shard, block, octet), node, shard, block, octet);
                }
            }
        }
        for (int d = 0; d < 100; d++) {
            int document = d;
            for (int i = 0; i < n; i++) {
                int node = i;
                for (int w = 0; w <= 2 && holds(node, d % s); w++) {
                    int what = w;
                    compare("document",
                            q -> q.document(node, document, what),
                            q -> q.document(node, document, what), node, document, what);
                }
            }
        }
    }

    private void compareSegments() {
        for (int i = 0; i <= n; i++) {
            int node = i;
            for (int k = 0; k < s; k++) {
                int shard = k;
                for (int l = 0; l <= (holds(node, shard) ? 4 : 0); l++) {
                    int g = l;
                    for (int w = -1; w <= 3; w++) {
                        int what = w;
                        compare("segment",
                                q -> q.segment(node, shard, g, what),
                                q -> q.segment(node, shard, g, what), node, shard, g, what);
                    }
                    int size = sizeOf(node, shard, g);
                    for (int w = -1; w <= size; w += size > 150 ? 1 + size / 100 : 1) {
                        int at = w;
                        compare("octet",
                                q -> q.octet(node, shard, g, at), q -> q.octet(node, shard, g, at), node, shard, g, at);
                    }
                }
            }
        }
    }

    private int sizeOf(int node, int shard, int g) {
        try {
            return m.segment(node, shard, g, 2);
        } catch (IndexOutOfBoundsException e) {
            return 0;
        }
    }
}
