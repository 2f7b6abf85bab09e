/** Each promise of the document by itself: ordinary calls, the edges that it names, wrong inputs. */
public final class PromisesTest {
    private static final Check CHECK = new Check();

    public static void main(String[] args) {
        newObject();
        make();
        draft();
        put();
        fiveHundredRequests();
        dropAndRefresh();
        find();
        request();
        hit();
        link();
        message();
        deliverAndLose();
        tickAndRun();
        upAndDown();
        start();
        fail();
        copy();
        other();
        view();
        document();
        act();
        disk();
        segmentAndOctet();
        told();
        CHECK.end("PromisesTest");
    }

    private static void newObject() {
        SearchCluster x = new SearchCluster();
        CHECK.due("1: shard 0 has a primary at node 0", x.copy(0, 0, 5), 2);
        CHECK.due("1: shard 0 follows at node 1", x.copy(1, 0, 5), 1);
        CHECK.due("1: shard 1 has a primary at node 1", x.copy(1, 1, 5), 2);
        CHECK.due("1: shard 1 follows at node 2", x.copy(2, 1, 5), 1);
        CHECK.outside("1: no third copy", () -> x.copy(2, 0, 5));
        CHECK.outside("1: no third shard", () -> x.copy(0, 2, 5));
        CHECK.due("1: the keeper is node 3", x.view(3, 1, 2), 6);
        CHECK.outside("1: no node 4", () -> x.up(4) ? 1 : 0);
        for (int what = 0; what < 7; what++) {
            CHECK.due("1: told " + what, x.told(what), 0);
        }
        CHECK.due("1: NONE", SearchCluster.NONE, -1);
    }

    private static void make() {
        SearchCluster x = new SearchCluster();
        int[][] wrong = {{0, 1, 1}, {6, 1, 1}, {1, 0, 1}, {1, 5, 1}, {1, 1, 0}, {5, 1, 4}, {2, 1, 3}, {-1, 1, 1}};
        Check.put(x, 0, 0, "cat");
        x.draft(2, 0x6261);
        x.tick();
        for (int[] w : wrong) {
            CHECK.refused("2: make " + w[0] + " " + w[1] + " " + w[2], () -> x.make(w[0], w[1], w[2]));
        }
        CHECK.due("2: a call that throws changes nothing", x.told(1), 1);
        CHECK.due("2: nor time", x.told(0), 1);
        x.down(0);
        x.fail(1, 1, 0);
        CHECK.due("2: copies", x.make(5, 4, 3), 12);
        CHECK.due("2: no requests", x.told(1), 0);
        CHECK.due("2: no messages", x.told(2), 0);
        CHECK.due("2: now", x.told(0), 0);
        CHECK.due("2: all are up", x.up(0) ? 1 : 0, 1);
        for (int i = 0; i < 61; i++) {
            x.drop(0, 0);
        }
        x.run(3);
        CHECK.due("2: one was lost", x.told(4), 1);
        x.make(5, 4, 3);
        for (int what = 0; what < 7; what++) {
            CHECK.due("2: told " + what, x.told(what), 0);
        }
        CHECK.due("2: the draft stays", x.draft(1, 'c'), 3);
        CHECK.due("2: shard 3's copies are at 3, 4, 0", x.view(5, 3, 2), 8 + 16 + 1);
        CHECK.due("2: shard 3's primary", x.copy(3, 3, 5), 2);
        CHECK.due("2: the third one", x.copy(0, 3, 5), 1);
        CHECK.outside("2: no copy there", () -> x.copy(1, 3, 5));
        x.put(1, 1);
        // ROUTE, MAP, WRITE, two REPLS and ACKS, DONE, and five BEATS
        CHECK.due("2: nobody fails any more", x.run(4), 13);
        CHECK.due("2: so node 1 is up", x.up(1) ? 1 : 0, 1);
        CHECK.due("2: one node alone", x.make(1, 4, 1), 4);
        CHECK.due("2: shard 3 is at node 0", x.copy(0, 3, 5), 2);
    }

    private static void draft() {
        SearchCluster x = new SearchCluster();
        CHECK.refused("3: none", () -> x.draft(0, 1));
        CHECK.refused("3: nine", () -> x.draft(9, 1));
        CHECK.refused("3: fewer than none", () -> x.draft(-1, 1));
        CHECK.due("3: one octet of many", x.draft(1, 0x4142434445464748L), 1);
        CHECK.due("3: the lowest first", x.draft(8, 0x6968676665646362L), 9);
        x.put(0, 0);
        x.run(2);
        String text = "Hbcdefghi";
        for (int i = 0; i < 9; i++) {
            // behind BASE (70 octets), SHOWN (5), kind, k, and nine octets of numbers
            int at = 70 + 5 + 11 + i;
            CHECK.due("3: octet " + i, x.disk(0, 0, 102 + at / 64, at % 64), text.charAt(i));
        }
        for (int i = 8; i <= 56; i += 8) {
            CHECK.due("3: it grows", x.draft(8, 0x2020202020202020L), i);
        }
        CHECK.refused("3: more than 60", () -> x.draft(5, 0));
        CHECK.due("3: just 60", x.draft(4, -1), 60);
        CHECK.refused("3: 61", () -> x.draft(1, 0));
        CHECK.due("3: octets without a sign", x.find(0, 1), -2 - 56);
    }

    private static void put() {
        SearchCluster x = new SearchCluster();
        CHECK.due("4: an empty text", x.put(0, 99), 0);
        CHECK.due("4: the next number", Check.put(x, 2, 0, "x"), 1);
        CHECK.due("4: the draft is empty then", x.draft(1, 'a'), 1);
        CHECK.outside("4: the keeper", () -> x.put(3, 0));
        CHECK.outside("4: node -1", () -> x.put(-1, 0));
        CHECK.outside("4: document 100", () -> x.put(0, 100));
        CHECK.outside("4: document -1", () -> x.put(0, -1));
        CHECK.due("4: the draft is as it was", x.draft(1, 31), 2);
        CHECK.outside("4: the node first", () -> x.put(3, 0));
        CHECK.refused("4: octet 31", () -> x.put(0, 0));
        x.down(0);
        CHECK.refused("4: the text before the node's being down", () -> x.put(0, 0));
        x.find(1, 1);
        CHECK.notNow("4: the node is down", () -> x.put(0, 0));
        x.draft(1, 127);
        CHECK.refused("4: octet 127", () -> x.put(1, 0));
        x.find(1, 1);
        CHECK.due("4: 40 octets", Check.write(x, "abcdefghijklmnopqrstuvwxyz ~ 12345678901"), 40);
        CHECK.due("4: are a text", x.put(1, 0), 2);
        Check.write(x, "abcdefghijklmnopqrstuvwxyz ~ 123456789012");
        CHECK.refused("4: 41 are none", () -> x.put(1, 0));
        CHECK.due("4: a ROUTE goes to the keeper", x.message(2, 3, 0, 0), 1);
        CHECK.due("4: with its number", x.message(2, 3, 0, 1), 1);
        CHECK.due("4: at attempt 0", x.message(2, 3, 0, 2), 0);
    }

    private static void fiveHundredRequests() {
        SearchCluster x = Check.made(1, 1, 1);
        for (int r = 0; r < 500; r++) {
            int want = r;
            CHECK.due("4: request " + want, r % 2 == 0 ? x.drop(0, 0) : x.refresh(0, 0), want);
        }
        CHECK.notNow("4: put 500", () -> x.put(0, 0));
        CHECK.notNow("5: drop 500", () -> x.drop(0, 0));
        CHECK.notNow("6: refresh 500", () -> x.refresh(0, 0));
        x.draft(1, 'a');
        CHECK.notNow("7: find 500", () -> x.find(0, 1));
        CHECK.due("28: 500", x.told(1), 500);
        CHECK.due("28: those lost for want of room", x.told(4), 440);
    }

    private static void dropAndRefresh() {
        SearchCluster x = new SearchCluster();
        CHECK.due("5: drop", x.drop(2, 99), 0);
        CHECK.due("5: its kind", x.request(0, 1), 1);
        CHECK.due("6: refresh", x.refresh(0, 1), 1);
        CHECK.due("6: its kind", x.request(1, 1), 2);
        CHECK.outside("5: the keeper", () -> x.drop(3, 0));
        CHECK.outside("5: document 100", () -> x.drop(0, 100));
        CHECK.outside("5: document -1", () -> x.drop(0, -1));
        CHECK.outside("6: the keeper", () -> x.refresh(3, 0));
        CHECK.outside("6: shard 2", () -> x.refresh(0, 2));
        CHECK.outside("6: shard -1", () -> x.refresh(0, -1));
        x.down(1);
        CHECK.notNow("5: down", () -> x.drop(1, 0));
        CHECK.outside("5: the document before that", () -> x.drop(1, 100));
        CHECK.notNow("6: down", () -> x.refresh(1, 0));
        CHECK.outside("6: the shard before that", () -> x.refresh(1, 2));

        SearchCluster y = new SearchCluster();
        Check.put(y, 0, 4, "cat");
        y.run(3);
        CHECK.due("5: the document is there", y.document(0, 4, 0), 0);
        y.drop(2, 4);
        y.run(4);
        CHECK.due("5: the drop is done", y.request(1, 0), 1);
        CHECK.due("5: and the document gone", y.document(0, 4, 0), -1);
        CHECK.due("5: from the other copy, too", y.document(1, 4, 0), -1);
        y.refresh(1, 0);
        y.run(4);
        CHECK.due("6: done", y.request(2, 0), 1);
        CHECK.due("6: shown", y.copy(0, 0, 4), 2);
        CHECK.due("6: at the follower, too", y.copy(1, 0, 4), 2);
    }

    private static void find() {
        SearchCluster x = new SearchCluster();
        CHECK.outside("7: the keeper", () -> x.find(3, 1));
        CHECK.outside("7: the node before how many", () -> x.find(3, 0));
        CHECK.refused("7: none", () -> x.find(0, 0));
        CHECK.refused("7: eleven", () -> x.find(0, 11));
        x.down(2);
        CHECK.refused("7: how many before being down", () -> x.find(2, 0));
        CHECK.notNow("7: down, whatever the fault", () -> x.find(2, 1));
        CHECK.due("7: nothing is no question", x.find(0, 1), -2);
        CHECK.due("7: none came", x.told(1), 0);
        CHECK.due("7: a question", Check.find(x, 0, 10, "cat"), 0);
        CHECK.due("7: its kind", x.request(0, 1), 3);
        Object[][] faults = {{"   ", 3}, {"+", 1}, {"-", 1}, {"+ a", 1}, {"++a", 1}, {"*", 0}, {"a*b", 2}, {"a**", 2},
            {"a+b", 1}, {"a\"b\"", 1}, {"\"\"", 1}, {"\"a", 2}, {"\"a b\"c", 5}, {"\"a*\"", 2}, {"\"+a\"", 1},
            {"\"a b c d e\"", 9}, {"a b c d e f g", 12}, {"a b c d e f *", 12}, {"a b c d e f +g", 12}, {"a.b", 1},
            {"a\u007f", 1}, {"a\u00e9", 1}, {"\u0000", 0}, {"\" \"", 2}, {"\"a b c d  ", 10}, {"  -\"a\"*", 6}};
        for (Object[] fault : faults) {
            CHECK.due("7: " + fault[0], Check.find(x, 0, 1, (String) fault[0]), -2 - (Integer) fault[1]);
            CHECK.due("7: the draft is empty then", x.draft(1, ' '), 1);
            x.find(0, 1);
        }
        Check.find(x, 0, 1, "abcdefghijklmnop.");
        CHECK.due("7: what was drafted before is gone", Check.find(x, 0, 1, "+"), -3);
        CHECK.due("7: behind a quote, too", Check.find(x, 0, 1, "a -\""), -6);
        String[] fine = {" a ", "+a -b", "\" a  b \"", "a*", "+12*", "-\"a\"", "\"a b c d\"", "a b c d e f ", "the"};
        int r = 1;
        for (String question : fine) {
            CHECK.due("7: " + question, Check.find(x, 1, 1, question), r);
            r++;
        }
    }

    private static void request() {
        SearchCluster x = new SearchCluster();
        x.run(3);
        x.drop(2, 1);
        int[] due = {0, 1, 2, 0, 3, 0};
        for (int what = 0; what < 6; what++) {
            CHECK.due("8: what " + what, x.request(0, what), due[what]);
        }
        CHECK.outside("8: what -1", () -> x.request(0, -1));
        CHECK.outside("8: what 6", () -> x.request(0, 6));
        CHECK.outside("8: request 1", () -> x.request(1, 0));
        CHECK.outside("8: request -1", () -> x.request(-1, 0));
        x.lose(2, 3);
        for (int i = 0; i < 7; i++) {
            x.tick();
        }
        CHECK.due("8: not tried again yet", x.request(0, 3), 0);
        x.tick();
        CHECK.due("8: tried again", x.request(0, 3), 1);
        for (int i = 8; i < 39; i++) {
            x.tick();
        }
        CHECK.due("8: open at 39", x.request(0, 0), 0);
        CHECK.due("8: attempt 4", x.request(0, 3), 4);
        x.tick();
        CHECK.due("8: failed at 40", x.request(0, 0), 2);
        CHECK.due("8: not tried then", x.request(0, 3), 4);
    }

    private static SearchCluster threeCats() {
        SearchCluster x = Check.made(2, 2, 1);
        Check.put(x, 0, 5, "cat");
        Check.put(x, 0, 2, "cat dog");
        Check.put(x, 0, 7, "cat");
        x.run(4);
        x.refresh(0, 0);
        x.refresh(0, 1);
        x.run(4);
        return x;
    }

    private static void hit() {
        SearchCluster x = threeCats();
        int r = Check.find(x, 1, 2, "cat");
        CHECK.outside("9: it is open", () -> x.hit(r, 0, 0));
        CHECK.due("8: an open one tells none", x.request(r, 5), 0);
        x.run(5);
        // D 3, T 4, F 3: RARE is LOG(8) - LOG(7) = 192 - 176; 16 * 2200 / (1300 + 900 * 3 / 4)
        CHECK.due("8: how many it tells", x.request(r, 5), 2);
        CHECK.due("9: the first", x.hit(r, 0, 0), 5);
        CHECK.due("9: its score", x.hit(r, 0, 1), 17);
        CHECK.due("9: the second: of like ones the lesser first", x.hit(r, 1, 0), 7);
        CHECK.outside("9: no third, for two were asked for", () -> x.hit(r, 2, 0));
        CHECK.outside("9: i -1", () -> x.hit(r, -1, 0));
        CHECK.outside("9: what 2", () -> x.hit(r, 0, 2));
        CHECK.outside("9: what -1", () -> x.hit(r, 0, -1));
        CHECK.outside("9: no such request", () -> x.hit(99, 0, 0));
        CHECK.outside("9: no find", () -> x.hit(0, 0, 0));
    }

    private static void link() {
        SearchCluster x = new SearchCluster();
        CHECK.due("10: empty", x.link(3, 3), 0);
        CHECK.outside("10: from 4", () -> x.link(4, 0));
        CHECK.outside("10: to 4", () -> x.link(0, 4));
        CHECK.outside("10: from -1", () -> x.link(-1, 0));
        CHECK.outside("10: to -1", () -> x.link(0, -1));
        for (int i = 0; i < 60; i++) {
            x.drop(0, 0);
        }
        CHECK.due("10: full", x.link(0, 3), 60);
        x.drop(0, 0);
        CHECK.due("10: the 61st is lost", x.link(0, 3), 60);
        CHECK.due("28: for want of room", x.told(4), 1);
        x.lose(0, 3);
        x.drop(0, 0);
        CHECK.due("10: room again", x.link(0, 3), 60);
        CHECK.due("11: the last one", x.message(0, 3, 59, 1), 61);
    }

    private static void message() {
        SearchCluster x = Check.made(2, 1, 2);
        Check.put(x, 1, 0, "cat");
        int[] route = {1, 0, 0, 0, 0, 0};
        for (int what = 0; what < 6; what++) {
            CHECK.due("11: ROUTE " + what, x.message(1, 2, 0, what), route[what]);
        }
        CHECK.outside("11: what 6", () -> x.message(1, 2, 0, 6));
        CHECK.outside("11: what -1", () -> x.message(1, 2, 0, -1));
        CHECK.outside("11: i 1", () -> x.message(1, 2, 1, 0));
        CHECK.outside("11: i -1", () -> x.message(1, 2, -1, 0));
        CHECK.outside("11: no such link", () -> x.message(3, 0, 0, 0));
        x.deliver(1, 2);
        x.deliver(2, 1);
        x.deliver(1, 0);
        int[] repl = {6, 0, 1, 1, 0, 0};
        for (int what = 0; what < 6; what++) {
            CHECK.due("11: REPL " + what, x.message(0, 1, 0, what), repl[what]);
        }
        x.deliver(0, 1);
        int[] ack = {7, 0, 1, 1, 0, 0};
        for (int what = 0; what < 6; what++) {
            CHECK.due("11: ACK " + what, x.message(1, 0, 0, what), ack[what]);
        }
        x.tick();
        x.tick();
        for (int what = 1; what < 6; what++) {
            CHECK.due("11: BEAT " + what, x.message(0, 2, 0, what), 0);
        }
        x.down(1);
        x.start(1);
        CHECK.due("11: HELLO", x.message(1, 2, 1, 0), 15);
        x.deliver(1, 2);
        x.deliver(1, 2);
        int[] config = {14, 0, 1, 0, 3, 1};
        for (int what = 0; what < 6; what++) {
            CHECK.due("11: CONFIG " + what, x.message(2, 1, 0, what), config[what]);
        }
    }

    private static void deliverAndLose() {
        SearchCluster x = new SearchCluster();
        CHECK.due("12: nothing there", x.deliver(0, 3), 0);
        CHECK.due("13: nothing there", x.lose(0, 3), 0);
        CHECK.outside("12: from 4", () -> x.deliver(4, 0));
        CHECK.outside("12: to -1", () -> x.deliver(0, -1));
        CHECK.outside("13: from -1", () -> x.lose(-1, 0));
        CHECK.outside("13: to 4", () -> x.lose(0, 4));
        x.drop(0, 0);
        x.drop(0, 2);
        CHECK.due("13: its kind", x.lose(0, 3), 1);
        CHECK.due("28: lost is not delivered", x.told(3), 0);
        CHECK.due("12: the next one's kind", x.deliver(0, 3), 1);
        CHECK.due("12: it was the second", x.message(3, 0, 0, 1), 1);
        x.down(0);
        CHECK.due("12: to one that is down", x.deliver(3, 0), 2);
        CHECK.due("28: is delivered, too", x.told(3), 2);
        CHECK.due("28: and nothing is sent by it", x.told(2), 0);
    }

    private static void tickAndRun() {
        SearchCluster x = new SearchCluster();
        CHECK.due("14: the first", x.tick(), 1);
        CHECK.due("14: no BEAT at an odd one", x.told(2), 0);
        CHECK.due("14: the second", x.tick(), 2);
        CHECK.due("14: three BEATS", x.told(2), 3);
        CHECK.refused("15: -1", () -> x.run(-1));
        CHECK.refused("15: 61", () -> x.run(61));
        CHECK.due("15: no times", x.run(0), 0);
        CHECK.due("15: the BEATS", x.run(1), 3);
        CHECK.due("28: now", x.told(0), 3);
        CHECK.due("15: sixty times", x.run(60), 3 * 30);
        CHECK.due("28: now", x.told(0), 63);
        SearchCluster y = Check.made(1, 1, 1);
        y.drop(0, 0);
        CHECK.due("15: a ROUTE; its MAP comes back at its turn, for links to 0 come first", y.run(1), 2);
        CHECK.due("15: a WRITE, a DONE on the same link behind it stays", y.run(1), 1);
        CHECK.due("15: the DONE, and a BEAT", y.run(1), 2);
        CHECK.due("15: done", y.request(0, 0), 1);
    }

    private static void upAndDown() {
        SearchCluster x = new SearchCluster();
        CHECK.due("16: up", x.up(3) ? 1 : 0, 1);
        CHECK.outside("16: node 4", () -> x.up(4) ? 1 : 0);
        CHECK.outside("16: node -1", () -> x.up(-1) ? 1 : 0);
        x.drop(0, 0);
        x.drop(0, 1);
        x.drop(1, 0);
        CHECK.due("17: two failed", x.down(0), 2);
        CHECK.due("16: down", x.up(0) ? 1 : 0, 0);
        CHECK.due("17: failed", x.request(0, 0), 2);
        CHECK.due("17: another's is open", x.request(2, 0), 0);
        CHECK.due("17: down already", x.down(0), 0);
        CHECK.due("17: the keeper", x.down(3), 0);
        CHECK.due("16: the keeper is down", x.up(3) ? 1 : 0, 0);
        CHECK.due("17: messages stay", x.told(2), 3);
        CHECK.outside("17: node 4", () -> x.down(4));
        CHECK.outside("17: node -1", () -> x.down(-1));
    }

    private static void start() {
        SearchCluster x = new SearchCluster();
        CHECK.outside("18: node 4", () -> x.start(4) ? 1 : 0);
        CHECK.outside("18: node -1", () -> x.start(-1) ? 1 : 0);
        CHECK.notNow("18: it is up", () -> x.start(0) ? 1 : 0);
        Check.put(x, 2, 0, "cat");
        x.run(4);
        x.down(0);
        CHECK.due("18: up again", x.start(0) ? 1 : 0, 1);
        CHECK.due("18: outside", x.copy(0, 0, 5), 0);
        CHECK.due("18: its act is there", x.act(0, 0, 1), 0);
        CHECK.due("18: but it does not know that it was sure", x.copy(0, 0, 3), 0);
        CHECK.due("18: view unknown", x.view(0, 0, 3), 0);
        CHECK.due("18: its primary", x.view(0, 0, 1), -1);
        CHECK.due("18: HELLO", x.message(0, 3, x.link(0, 3) - 1, 0), 15);
        x.down(3);
        CHECK.due("18: the keeper", x.start(3) ? 1 : 0, 1);
        CHECK.due("18: sends no HELLO", x.link(3, 3), 0);
        CHECK.due("18: its view is there", x.view(3, 0, 3), 1);
    }

    private static void fail() {
        SearchCluster x = Check.made(1, 1, 1);
        CHECK.outside("19: node 2", () -> {
            x.fail(2, 1, 0);
            return 0;
        });
        CHECK.outside("19: the node before the rest", () -> {
            x.fail(-1, 1001, 0);
            return 0;
        });
        int[][] wrong = {{-1, 0}, {1001, 0}, {1, -1}, {1, 64}};
        for (int[] w : wrong) {
            CHECK.refused("19: " + w[0] + " " + w[1], () -> {
                x.fail(0, w[0], w[1]);
                return 0;
            });
        }
        x.fail(0, 1000, 63);
        x.fail(0, 2, 5);
        x.drop(0, 0);
        x.run(3);
        CHECK.due("19: the first block is whole", x.up(0) ? 1 : 0, 1);
        x.down(0);
        x.start(0);
        x.run(4);
        // HELLO made it primary anew: the CUT was the second block
        CHECK.due("19: it holds through down and start", x.up(0) ? 1 : 0, 0);
        CHECK.due("28: the torn block counts, and the keeper's", x.told(5), 3);
        CHECK.due("19: but it holds no more", x.start(0) ? 1 : 0, 1);
        x.run(4);
        CHECK.due("19: it is primary", x.copy(0, 0, 5), 2);
        x.fail(0, 1, 0);
        x.fail(0, 0, 0);
        int r = x.drop(0, 1);
        x.run(4);
        CHECK.due("19: m = 0: it does not", x.request(r, 0), 1);
    }

    private static void copy() {
        SearchCluster x = new SearchCluster();
        int[] first = {1, 0, 0, 0, 0, 2, 0, 1, 0};
        for (int what = 0; what < 9; what++) {
            CHECK.due("20: at first " + what, x.copy(0, 0, what), first[what]);
        }
        Check.put(x, 0, 0, "cat");
        Check.put(x, 0, 2, "dog");
        x.drop(0, 8);
        x.run(4);
        x.refresh(0, 0);
        x.run(3);
        int[] due = {1, 0, 3, 3, 3, 2, 1, 1, 2};
        for (int what = 0; what < 9; what++) {
            CHECK.due("20: what " + what, x.copy(0, 0, what), due[what]);
        }
        CHECK.outside("20: what -1", () -> x.copy(0, 0, -1));
        CHECK.outside("20: what 9", () -> x.copy(0, 0, 9));
        CHECK.outside("20: the keeper", () -> x.copy(3, 0, 0));
        CHECK.outside("20: node -1", () -> x.copy(-1, 0, 0));
        CHECK.outside("20: shard 2", () -> x.copy(0, 2, 0));
        CHECK.outside("20: shard -1", () -> x.copy(0, -1, 0));
        x.down(0);
        for (int what = 0; what < 9; what++) {
            CHECK.due("20: down " + what, x.copy(0, 0, what), -1);
        }
        CHECK.outside("20: what 9 of one that is down", () -> x.copy(0, 0, 9));
    }

    private static void other() {
        SearchCluster x = Check.made(4, 1, 3);
        int[] first = {3, 0, 0, 0};
        for (int what = 0; what < 4; what++) {
            CHECK.due("21: at first " + what, x.other(0, 0, 2, what), first[what]);
        }
        Check.put(x, 0, 0, "cat");
        x.run(4);
        x.refresh(0, 0);
        x.run(3);
        CHECK.due("21: has", x.other(0, 0, 1, 1), 1);
        CHECK.due("21: saw", x.other(0, 0, 1, 2), 1);
        CHECK.due("21: a follower", x.other(1, 0, 2, 0), -1);
        CHECK.outside("21: itself", () -> x.other(0, 0, 0, 0));
        CHECK.outside("21: no copy at 3", () -> x.other(0, 0, 3, 0));
        CHECK.outside("21: x -1", () -> x.other(0, 0, -1, 0));
        CHECK.outside("21: the keeper", () -> x.other(0, 0, 4, 0));
        CHECK.outside("21: what 4", () -> x.other(0, 0, 1, 4));
        CHECK.outside("21: what -1", () -> x.other(0, 0, 1, -1));
        CHECK.outside("21: no such copy", () -> x.other(3, 0, 1, 0));
        x.down(0);
        CHECK.due("21: down", x.other(0, 0, 1, 0), -1);
    }

    private static void view() {
        SearchCluster x = new SearchCluster();
        int[] due = {1, 1, 6, 1};
        for (int what = 0; what < 4; what++) {
            CHECK.due("22: a node's " + what, x.view(2, 1, what), due[what]);
            CHECK.due("22: the keeper's " + what, x.view(3, 1, what), due[what]);
        }
        CHECK.outside("22: no copy", () -> x.view(0, 1, 0));
        CHECK.outside("22: the keeper's of shard 2", () -> x.view(3, 2, 0));
        CHECK.outside("22: of shard -1", () -> x.view(3, -1, 0));
        CHECK.outside("22: node 4", () -> x.view(4, 0, 0));
        CHECK.outside("22: node -1", () -> x.view(-1, 0, 0));
        CHECK.outside("22: what 4", () -> x.view(3, 0, 4));
        CHECK.outside("22: what -1", () -> x.view(0, 0, -1));
        x.down(3);
        x.down(0);
        CHECK.due("22: the keeper is down", x.view(3, 0, 0), -1);
        CHECK.due("22: the node is down", x.view(0, 0, 0), -1);
    }

    private static void document() {
        SearchCluster x = Check.made(2, 1, 2);
        Check.put(x, 0, 7, "cat");
        x.run(2);
        x.refresh(0, 0);
        x.run(3);
        Check.put(x, 0, 7, "dog");
        x.deliver(0, 2);
        while (x.link(2, 0) > 0) {
            x.deliver(2, 0);
        }
        while (x.link(0, 0) > 0) {
            x.deliver(0, 0);
        }
        CHECK.due("23: by all acts", x.document(0, 7, 0), 2);
        CHECK.due("23: up to sure", x.document(0, 7, 1), 0);
        CHECK.due("23: in the index", x.document(0, 7, 2), 0);
        CHECK.due("23: none", x.document(0, 8, 0), -1);
        CHECK.outside("23: document 100", () -> x.document(0, 100, 0));
        CHECK.outside("23: document -1", () -> x.document(0, -1, 0));
        CHECK.outside("23: the keeper", () -> x.document(2, 7, 0));
        CHECK.outside("23: what 3", () -> x.document(0, 7, 3));
        CHECK.outside("23: what -1", () -> x.document(0, 7, -1));
        x.down(0);
        CHECK.due("23: down", x.document(0, 7, 0), -1);
        SearchCluster y = new SearchCluster();
        CHECK.outside("23: no copy of its shard", () -> y.document(0, 1, 0));
        CHECK.due("23: another shard's", y.document(0, 2, 0), -1);
    }

    private static void act() {
        SearchCluster x = new SearchCluster();
        x.refresh(0, 0);
        x.drop(0, 0);
        x.run(3);
        CHECK.due("24: its request", x.act(0, 0, 1), 1);
        CHECK.due("24: beyond last", x.act(0, 0, 2), -1);
        CHECK.due("24: base", x.act(0, 0, 0), -1);
        CHECK.due("24: -1", x.act(0, 0, -1), -1);
        CHECK.due("24: far away", x.act(0, 0, Integer.MAX_VALUE), -1);
        CHECK.due("24: far below", x.act(0, 0, Integer.MIN_VALUE), -1);
        CHECK.outside("24: no such copy", () -> x.act(2, 0, 1));
        CHECK.outside("24: the keeper", () -> x.act(3, 0, 1));
        x.down(0);
        CHECK.due("24: down", x.act(0, 0, 1), -1);
    }

    private static void disk() {
        SearchCluster x = new SearchCluster();
        int[] keeper = {7, 7, 0, 0, 1, 0, 3, 0, 1, 255, 7, 7, 1, 0, 1, 1, 6, 0, 1, 255, 0};
        for (int i = 0; i < keeper.length; i++) {
            CHECK.due("25: the keeper's octet " + i, x.disk(3, 0, 102, i), keeper[i]);
        }
        CHECK.due("25: no generation yet", x.disk(3, 0, 0, 0), 0);
        CHECK.due("25: generation 1", x.disk(3, 0, 1, 0), 1);
        CHECK.due("25: the last octet", x.disk(3, 0, 201, 63), 0);
        int[] base = {5, 67, 0, 0, 0, 1, 0};
        for (int i = 0; i < base.length; i++) {
            CHECK.due("25: a copy's octet " + i, x.disk(2, 1, 102, i), base[i]);
        }
        int[] shown = {255, 4, 2, 0, 0, 255, 0};
        for (int i = 0; i < shown.length; i++) {
            CHECK.due("25: behind base " + i, x.disk(2, 1, 103, 5 + i), shown[i]);
        }
        CHECK.outside("25: block 202", () -> x.disk(0, 0, 202, 0));
        CHECK.outside("25: block -1", () -> x.disk(0, 0, -1, 0));
        CHECK.outside("25: octet 64", () -> x.disk(0, 0, 0, 64));
        CHECK.outside("25: octet -1", () -> x.disk(0, 0, 0, -1));
        CHECK.outside("25: the keeper's shard 1", () -> x.disk(3, 1, 0, 0));
        CHECK.outside("25: no such copy", () -> x.disk(2, 0, 0, 0));
        CHECK.outside("25: node 4", () -> x.disk(4, 0, 0, 0));
        CHECK.outside("25: node -1", () -> x.disk(-1, 0, 0, 0));
        x.down(2);
        x.down(3);
        CHECK.due("25: one that is down", x.disk(2, 1, 102, 0), 5);
        CHECK.due("25: the keeper's when it is down", x.disk(3, 0, 102, 0), 7);
    }

    private static void segmentAndOctet() {
        SearchCluster x = Check.made(1, 1, 1);
        Check.put(x, 0, 3, "b4 the cats");
        Check.put(x, 0, 9, "Cat b4 cat, car");
        x.run(4);
        x.refresh(0, 0);
        x.run(3);
        int[] octets = {2, 3, 2, 6, 4, 3,
            0, 2, 'b', '4', 2, 0, 1, 0, 1, 1, 1,
            0, 3, 'c', 'a', 'r', 1, 1, 1, 3,
            2, 1, 't', 2, 0, 1, 2, 1, 2, 0, 2};
        CHECK.due("26: documents", x.segment(0, 0, 0, 0), 2);
        CHECK.due("26: live", x.segment(0, 0, 0, 1), 2);
        CHECK.due("26: octets", x.segment(0, 0, 0, 2), octets.length);
        for (int i = 0; i < octets.length; i++) {
            CHECK.due("27: octet " + i, x.octet(0, 0, 0, i), octets[i]);
        }
        CHECK.outside("27: behind the last", () -> x.octet(0, 0, 0, octets.length));
        CHECK.outside("27: -1", () -> x.octet(0, 0, 0, -1));
        CHECK.outside("27: segment 1", () -> x.octet(0, 0, 1, 0));
        CHECK.outside("26: segment 1", () -> x.segment(0, 0, 1, 0));
        CHECK.outside("26: segment -1", () -> x.segment(0, 0, -1, 0));
        CHECK.outside("26: what 3", () -> x.segment(0, 0, 0, 3));
        CHECK.outside("26: what -1", () -> x.segment(0, 0, 0, -1));
        CHECK.outside("26: the keeper", () -> x.segment(1, 0, 0, 0));
        x.drop(0, 3);
        x.run(3);
        x.refresh(0, 0);
        x.run(3);
        CHECK.due("26: not live, but there", x.segment(0, 0, 0, 0), 2);
        CHECK.due("26: one is live", x.segment(0, 0, 0, 1), 1);
        CHECK.due("26: all its octets", x.segment(0, 0, 0, 2), octets.length);
        x.down(0);
        CHECK.outside("26: down", () -> x.segment(0, 0, 0, 0));
        CHECK.outside("27: down", () -> x.octet(0, 0, 0, 0));
    }

    private static void told() {
        SearchCluster x = new SearchCluster();
        CHECK.outside("28: 7", () -> x.told(7));
        CHECK.outside("28: -1", () -> x.told(-1));
        x.tick();
        Check.find(x, 0, 1, "cat");
        CHECK.due("28: now", x.told(0), 1);
        CHECK.due("28: requests", x.told(1), 1);
        CHECK.due("28: messages", x.told(2), 1);
        x.deliver(0, 3);
        x.deliver(3, 0);
        CHECK.due("28: delivered", x.told(3), 2);
        // (r + a) % 2 is 0: the first nodes of the masks, 0 and 1
        x.deliver(0, 0);
        x.deliver(0, 1);
        CHECK.due("28: contexts", x.told(6), 2);
        x.down(0);
        CHECK.due("28: down has none", x.told(6), 1);
        for (int i = 0; i < 11; i++) {
            x.tick();
        }
        CHECK.due("28: 11 ticks old", x.told(6), 1);
        x.tick();
        CHECK.due("28: 12 ticks old", x.told(6), 0);
    }
}
