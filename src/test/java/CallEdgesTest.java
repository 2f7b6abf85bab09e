/** Each call's own edges: the least and the greatest that it takes, one beyond each, and which refusal comes first. */
public final class CallEdgesTest {
    private static final Check CHECK = new Check();
    private static final String FORTY = "abcdefghijklmnopqrstuvwxyz 0123456789 ab";

    interface Ask {
        long of(int value);
    }

    public static void main(String[] args) {
        newObject();
        makeSizes();
        makeAgain();
        makeForgetsDisks();
        makeForgetsOthers();
        makeForgetsTimes();
        draftSizes();
        draftRoom();
        draftOctets();
        putPlaces();
        putTexts();
        putRefusals();
        fiveHundred();
        dropPlaces();
        refreshPlaces();
        findMany();
        findDraft();
        requestEdges();
        requestHits();
        hitEdges();
        linkEdges();
        messageEdges();
        deliverEdges();
        loseEdges();
        tickEdges();
        runEdges();
        runTurns();
        upEdges();
        downEdges();
        startEdges();
        failEdges();
        failHolds();
        copyEdges();
        otherEdges();
        viewEdges();
        documentEdges();
        actEdges();
        diskEdges();
        segmentEdges();
        octetEdges();
        toldEdges();
        CHECK.end("CallEdgesTest");
    }

    /** Low and high are taken; one beyond each, and what lies far beyond, is outside. */
    private static void outsideOf(int low, int high, String what, Ask ask) {
        CHECK.fine(what + " " + low, () -> ask.of(low));
        CHECK.fine(what + " " + high, () -> ask.of(high));
        for (int wrong : beyond(low, high)) {
            CHECK.outside(what + " " + wrong, () -> ask.of(wrong));
        }
    }

    private static void refusedOf(int low, int high, String what, Ask ask) {
        CHECK.fine(what + " " + low, () -> ask.of(low));
        CHECK.fine(what + " " + high, () -> ask.of(high));
        for (int wrong : beyond(low, high)) {
            CHECK.refused(what + " " + wrong, () -> ask.of(wrong));
        }
    }

    private static int[] beyond(int low, int high) {
        return new int[] {low - 1, high + 1, Integer.MIN_VALUE, Integer.MAX_VALUE, high + 256, low - 256};
    }

    // ---- 1 and 2: a cluster

    private static void newObject() {
        Cluster x = new Cluster();
        Cluster y = new Cluster(3, 2, 2);
        for (int what = 0; what <= 6; what++) {
            CHECK.due("1: told " + what, x.told(what), y.told(what));
        }
        for (int shard = 0; shard < 2; shard++) {
            CHECK.same("1: the keeper's view", x.view(3, shard), y.view(3, shard));
            for (int i = 0; i < 2; i++) {
                CHECK.same("1: a copy", x.copy(shard + i, shard), y.copy(shard + i, shard));
                CHECK.same("1: a view", x.view(shard + i, shard), y.view(shard + i, shard));
                CHECK.same("1: a disk", x.octets(shard + i, shard, 1, 0, 16), y.octets(shard + i, shard, 1, 0, 16));
            }
        }
        CHECK.outside("1: 3 nodes and the keeper", () -> x.up(4));
        CHECK.outside("1: 2 shards", () -> x.view(3, 2, 0));
        CHECK.outside("1: 2 copies", () -> x.copy(2, 0, 0));
        CHECK.due("1: the draft is empty", x.draft(1, 'a'), 1);
    }

    private static void makeSizes() {
        Cluster x = new Cluster();
        for (int n = -1; n <= 7; n++) {
            for (int s = -1; s <= 6; s++) {
                for (int c = -1; c <= 5; c++) {
                    int nodes = n;
                    int shards = s;
                    int copies = c;
                    String what = "2: make " + n + " " + s + " " + c;
                    if (n >= 1 && n <= 5 && s >= 1 && s <= 4 && c >= 1 && c <= 3 && c <= n) {
                        CHECK.due(what, x.make(n, s, c), s * c);
                    } else {
                        CHECK.refused(what, () -> x.make(nodes, shards, copies));
                    }
                }
            }
        }
        Cluster y = new Cluster();
        for (int odd : new int[] {Integer.MIN_VALUE, Integer.MAX_VALUE}) {
            CHECK.refused("2: n far beyond", () -> y.make(odd, 1, 1));
            CHECK.refused("2: s far beyond", () -> y.make(3, odd, 1));
            CHECK.refused("2: c far beyond", () -> y.make(3, 1, odd));
        }
    }

    private static void makeAgain() {
        Cluster x = new Cluster(2, 1, 2);
        x.put(1, 3, "cat");
        x.run(3);
        x.find(0, 1, "cat");
        x.deliver(0, 2);
        x.draft(2, 0x6261);
        x.fail(0, 1, 0);
        x.down(1);
        CHECK.refused("2: a refused one", () -> x.make(2, 1, 3));
        CHECK.due("2: changes nothing: requests", x.told(1), 2);
        CHECK.due("2: changes nothing: now", x.told(0), 3);
        CHECK.due("2: changes nothing: up", x.up(1), 0);
        CHECK.due("2: changes nothing: messages", x.link(2, 0), 1);
        CHECK.due("2: as at first", x.make(2, 1, 2), 2);
        for (int what = 0; what <= 6; what++) {
            CHECK.due("2: nothing is told " + what, x.told(what), 0);
        }
        CHECK.due("2: all are up", x.up(0) + x.up(1) + x.up(2), 3);
        CHECK.same("2: a copy", x.copy(1, 0), "1 0 0 0 0 1");
        CHECK.same("2: a disk", x.octets(1, 0, 1, 70, 8), "4 2 0 0 255 0 0 0");
        CHECK.due("2: the draft stays", x.draft(1, 'c'), 3);
        CHECK.due("2: requests begin at 0", x.put(0, 0), 0);
        x.run(3);
        CHECK.due("2: node 0 fails no more", x.up(0), 1);
        CHECK.due("2: and the put is done", x.request(0, 0), 1);
    }

    private static void makeForgetsDisks() {
        Cluster x = new Cluster(1, 1, 1);
        x.put(0, 0, "cat");
        x.puts(0, 59);
        x.run(3);
        x.refresh(0, 0);
        x.run(3);
        x.puts(0, 1);
        x.run(3);
        CHECK.same("2: before", x.copy(0, 0, 7) + " " + x.copy(0, 0, 6) + " " + x.disk(0, 0, 2, 0), "2 1 5");
        x.make(1, 1, 1);
        CHECK.same("2: generation, segments", x.copy(0, 0, 7) + " " + x.copy(0, 0, 6), "1 0");
        CHECK.due("2: not in the index", x.document(0, 0, 2), -1);
        CHECK.same("2: heads", x.disk(0, 0, 0, 0) + " " + x.disk(0, 0, 1, 0), "0 1");
        CHECK.same("2: nothing in HALF 0", x.octets(0, 0, 0, 0, 4), "0 0 0 0");
        CHECK.same("2: BASE alone, and SHOWN", x.octets(0, 0, 1, 68, 10), "0 255 4 2 0 0 255 0 0 0");
        CHECK.due("2: nothing is done", x.put(0, 5), 0);
        x.run(3);
        CHECK.due("2: so a put of a number that was done is done anew", x.copy(0, 0, 2), 1);
    }

    /** What a PRIMARY had of the others, and who waited, is of the cluster before. */
    private static void makeForgetsOthers() {
        Cluster x = new Cluster(2, 1, 2);
        x.puts(0, 1);
        x.run(4);
        x.down(1);
        x.refresh(0, 0);
        x.run(1);
        x.run(1);
        CHECK.due("2: request 1 waits", x.request(1, 0), 0);
        x.run(10);
        x.start(1);
        x.run(6);
        x.refresh(0, 0);
        x.drain(0, 2);
        CHECK.same("2: of node 1", x.other(0, 0, 1), "3 1 1 1");
        x.make(2, 1, 2);
        CHECK.same("2: as at first", x.other(0, 0, 1), "3 0 0 0");
        x.puts(0, 1);
        x.drain(0, 2);
        x.drain(2, 0);
        x.drain(0, 0);
        x.clear(0, 1);
        x.ticks(2);
        CHECK.due("2: nothing yet", x.link(0, 1), 0);
        x.tick();
        CHECK.same("2: REPL at the third tick, for SENT is 0", x.kinds(0, 1), "6");
        Cluster y = new Cluster(2, 1, 2);
        y.puts(0, 1);
        y.run(4);
        y.down(1);
        y.refresh(0, 0);
        y.run(2);
        CHECK.due("2: request 1 waits", y.request(1, 0), 0);
        y.make(2, 1, 2);
        y.puts(0, 1);
        y.run(4);
        y.refresh(0, 0);
        y.run(4);
        CHECK.due("2: another request 1 does not, and is done", y.request(1, 0), 1);
    }

    private static void makeForgetsTimes() {
        Cluster x = new Cluster();
        x.puts(0, 4);
        x.run(5);
        CHECK.due("2: all are done", x.down(0), 0);
        x.make(3, 2, 2);
        int r = x.drop(0, 0);
        x.lose(0, 3);
        x.ticks(7);
        CHECK.due("2: not tried again yet", x.request(r, 3), 0);
        x.tick();
        CHECK.due("2: tried again at 8", x.request(r, 3), 1);
        CHECK.due("2: and it fails with its host", x.down(0), 1);
    }

    // ---- 3: the draft

    private static void draftSizes() {
        Cluster x = new Cluster();
        refusedOf(1, 8, "3: draft of", n -> x.draft(n, 0x6161616161616161L));
        CHECK.due("3: refused ones add nothing", x.draft(1, 'a'), 10);
    }

    private static void draftRoom() {
        for (int n = 1; n <= 8; n++) {
            int many = n;
            Cluster x = new Cluster();
            for (int i = 0; i < 60 - n; i++) {
                x.draft(1, ' ');
            }
            x.draft(1, ' ');
            CHECK.refused("3: " + n + " more than 60 less " + (n - 1), () -> x.draft(many, 0));
            x.find(0, 1);
            for (int i = 0; i < 60 - n; i++) {
                x.draft(1, ' ');
            }
            CHECK.due("3: " + n + " make it full", x.draft(n, 0x2020202020202020L), 60);
            CHECK.refused("3: it is full", () -> x.draft(1, 0));
            CHECK.due("3: all of them are there", x.find(0, 1), -2 - 60);
        }
    }

    private static void draftOctets() {
        Cluster x = new Cluster(1, 1, 1);
        x.draft(3, 0x4443424120636261L);
        x.draft(8, 0x7E5A595857565554L);
        x.put(0, 0);
        x.run(2);
        // behind BASE (70 octets), SHOWN (5), the RECORD's kind, k, and nine octets of numbers
        CHECK.same("3: the lowest first, and no more than n", x.octets(0, 0, 1, 86, 12),
                "97 98 99 84 85 86 87 88 89 90 126 255");
        x.draft(8, -1L);
        CHECK.due("3: octets have no sign", x.find(0, 1), -2);
        x.draft(1, -1L);
        CHECK.refused("3: 255 is no text", () -> x.put(0, 0));
    }

    // ---- 4: put

    private static void putPlaces() {
        Cluster x = new Cluster(5, 4, 1);
        outsideOf(0, 4, "4: put to node", node -> x.put(node, 0));
        CHECK.outside("4: the keeper is none", () -> x.put(5, 0));
        outsideOf(0, 99, "4: put of document", document -> x.put(0, document));
        CHECK.due("4: four came", x.told(1), 4);
    }

    private static void putTexts() {
        Cluster x = new Cluster();
        CHECK.due("4: a text of no octets", x.put(0, 0), 0);
        CHECK.due("4: of one", x.put(0, 0, "~"), 1);
        CHECK.due("4: of 40", x.put(0, 0, FORTY), 2);
        CHECK.due("4: 41 octets are there", x.write(FORTY + "c"), 41);
        CHECK.refused("4: which are no text", () -> x.put(0, 0));
        CHECK.due("4: nor are 60", x.write("0123456789 01234567"), 60);
        CHECK.refused("4: nor 60", () -> x.put(0, 0));
        for (int octet : new int[] {0, 31, 127, 128, 160, 255}) {
            Cluster y = new Cluster();
            y.write("cat");
            y.draft(1, octet);
            CHECK.refused("4: octet " + octet, () -> y.put(0, 0));
            CHECK.due("4: the draft stays", y.draft(1, 'a'), 5);
        }
        for (int octet : new int[] {32, 126}) {
            Cluster y = new Cluster();
            y.draft(1, octet);
            CHECK.due("4: octet " + octet, y.put(0, 0), 0);
            CHECK.due("4: the draft is empty then", y.draft(1, 'a'), 1);
        }
    }

    private static void putRefusals() {
        Cluster x = new Cluster();
        x.down(0);
        x.draft(1, 31);
        CHECK.outside("4: the node first", () -> x.put(3, 0));
        CHECK.outside("4: the document, too", () -> x.put(0, 100));
        CHECK.refused("4: then the text", () -> x.put(0, 0));
        x.find(1, 1);
        x.draft(1, 'a');
        CHECK.notNow("4: then the node's being down", () -> x.put(0, 0));
        CHECK.due("4: the draft stays", x.draft(1, 'b'), 2);
        CHECK.due("4: nothing came", x.told(1), 0);
        CHECK.due("4: nothing was sent", x.told(2), 0);
        CHECK.due("4: to one that is up", x.put(1, 0), 0);
    }

    private static void fiveHundred() {
        Cluster x = new Cluster(1, 1, 1);
        for (int r = 0; r < 499; r++) {
            x.drop(0, 0);
        }
        CHECK.due("4: the 500th", x.put(0, 0), 499);
        CHECK.notNow("4: no 501st put", () -> x.put(0, 0));
        CHECK.notNow("5: no 501st drop", () -> x.drop(0, 0));
        CHECK.notNow("6: no 501st refresh", () -> x.refresh(0, 0));
        x.draft(1, '*');
        CHECK.notNow("7: no 501st find, whatever the fault", () -> x.find(0, 1));
        CHECK.due("7: the draft stays", x.draft(1, 'a'), 2);
        CHECK.refused("7: how many comes first", () -> x.find(0, 11));
        CHECK.outside("5: the document comes first", () -> x.drop(0, 100));
        CHECK.due("28: 500", x.told(1), 500);
        CHECK.due("8: the last one's kind", x.request(499, 1), 0);
    }

    // ---- 5 to 7: drop, refresh, find

    private static void dropPlaces() {
        Cluster x = new Cluster(5, 1, 3);
        outsideOf(0, 4, "5: drop to node", node -> x.drop(node, 0));
        CHECK.outside("5: the keeper is none", () -> x.drop(5, 0));
        outsideOf(0, 99, "5: drop of document", document -> x.drop(0, document));
        x.down(1);
        CHECK.notNow("5: down", () -> x.drop(1, 0));
        CHECK.outside("5: the document before that", () -> x.drop(1, 100));
        x.write("cat");
        CHECK.due("5: its number", x.drop(0, 0), 4);
        CHECK.due("5: the draft is not its text", x.draft(1, 's'), 4);
    }

    private static void refreshPlaces() {
        Cluster x = new Cluster(5, 4, 3);
        outsideOf(0, 4, "6: refresh to node", node -> x.refresh(node, 0));
        CHECK.outside("6: the keeper is none", () -> x.refresh(5, 0));
        outsideOf(0, 3, "6: refresh of shard", shard -> x.refresh(0, shard));
        x.down(1);
        CHECK.notNow("6: down", () -> x.refresh(1, 0));
        CHECK.outside("6: the shard before that", () -> x.refresh(1, 4));
        CHECK.due("6: its number", x.refresh(4, 3), 4);
        Cluster y = new Cluster(5, 1, 3);
        CHECK.outside("6: one shard alone", () -> y.refresh(0, 1));
    }

    private static void findMany() {
        Cluster x = new Cluster(5, 1, 3);
        refusedOf(1, 10, "7: find of", many -> x.find(0, many, "a1"));
        x.find(0, 1);
        outsideOf(0, 4, "7: find to node", node -> x.find(node, 1));
        CHECK.outside("7: the keeper is none", () -> x.find(5, 1));
        CHECK.outside("7: the node before how many", () -> x.find(5, 0));
        x.down(2);
        CHECK.refused("7: how many before being down", () -> x.find(2, 11));
        CHECK.notNow("7: down", () -> x.find(2, 10));
    }

    private static void findDraft() {
        Cluster x = new Cluster();
        CHECK.due("7: no octets: the fault is at 0", x.find(0, 1), -2);
        CHECK.due("7: none came", x.told(1), 0);
        CHECK.due("7: nothing was sent", x.told(2), 0);
        x.write("cat");
        CHECK.refused("7: refused", () -> x.find(0, 0));
        CHECK.due("7: the draft stays", x.draft(1, '!'), 4);
        CHECK.due("7: a fault at 3", x.find(0, 1), -5);
        CHECK.due("7: the draft is empty then", x.draft(1, 'a'), 1);
        CHECK.due("7: a question", x.find(0, 1), 0);
        CHECK.due("7: the draft is empty then, too", x.draft(1, 'a'), 1);
    }

    // ---- 8 and 9: what came of a request

    private static void requestEdges() {
        Cluster x = new Cluster();
        CHECK.outside("8: none yet", () -> x.request(0, 0));
        x.run(5);
        x.drop(2, 0);
        x.refresh(1, 1);
        outsideOf(0, 1, "8: request", r -> x.request(r, 0));
        outsideOf(0, 5, "8: what", what -> x.request(0, what));
        CHECK.due("8: open", x.request(1, 0), 0);
        CHECK.due("8: its kind", x.request(1, 1), 2);
        CHECK.due("8: its host", x.request(1, 2), 1);
        CHECK.due("8: attempt 0", x.request(1, 3), 0);
        CHECK.due("8: it came at 5", x.request(1, 4), 5);
        CHECK.due("8: it tells none", x.request(1, 5), 0);
        x.down(2);
        CHECK.due("8: failed", x.request(0, 0), 2);
        x.run(4);
        CHECK.due("8: done", x.request(1, 0), 1);
        CHECK.due("8: a refresh tells none", x.request(1, 5), 0);
    }

    /** How many documents a FIND tells: none, fewer than asked for, as many, no more. */
    private static void requestHits() {
        Cluster x = new Cluster(1, 1, 1);
        for (int d = 0; d < 11; d++) {
            x.put(0, d, "cat");
        }
        x.run(3);
        x.refresh(0, 0);
        x.run(3);
        int none = x.find(0, 10, "dog");
        int one = x.find(0, 1, "cat");
        int ten = x.find(0, 10, "cat");
        CHECK.due("8: open: none", x.request(ten, 5), 0);
        x.run(5);
        CHECK.due("8: done, and none was found", x.request(none, 0) * 10 + x.request(none, 5), 10);
        CHECK.due("8: one of eleven", x.request(one, 5), 1);
        CHECK.due("8: ten of eleven", x.request(ten, 5), 10);
        CHECK.outside("9: none", () -> x.hit(none, 0, 0));
        CHECK.outside("9: one", () -> x.hit(one, 1, 0));
        outsideOf(0, 9, "9: hit", i -> x.hit(ten, i, 0));
        for (int i = 0; i < 10; i++) {
            CHECK.due("9: of like ones the lesser first", x.hit(ten, i, 0), i);
        }
        int failed = x.find(0, 10, "cat");
        x.down(0);
        CHECK.due("8: failed: none", x.request(failed, 0) * 10 + x.request(failed, 5), 20);
        CHECK.outside("9: failed: none", () -> x.hit(failed, 0, 0));
        CHECK.due("9: what was found stays", x.hit(one, 0, 0), 0);
    }

    private static void hitEdges() {
        Cluster x = new Cluster(1, 1, 1);
        x.put(0, 99, "cat");
        x.run(3);
        x.refresh(0, 0);
        x.run(3);
        int r = x.find(0, 10, "cat");
        x.run(3);
        CHECK.outside("9: still open", () -> x.hit(r, 0, 0));
        x.run(2);
        outsideOf(0, 1, "9: what", what -> x.hit(r, 0, what));
        outsideOf(0, 0, "9: hit", i -> x.hit(r, i, 1));
        outsideOf(r, r, "9: of request", q -> x.hit(q, 0, 0));
        CHECK.due("9: the document", x.hit(r, 0, 0), 99);
        CHECK.due("9: its score", x.hit(r, 0, 1), 32);
        CHECK.outside("9: of a put", () -> x.hit(0, 0, 0));
        CHECK.outside("9: of a refresh", () -> x.hit(1, 0, 0));
    }

    // ---- 10 to 13: links

    private static void linkEdges() {
        for (int n = 1; n <= 5; n += 4) {
            Cluster x = new Cluster(n, 1, 1);
            outsideOf(0, n, "10: link from", from -> x.link(from, 0));
            outsideOf(0, n, "10: link to", to -> x.link(0, to));
            CHECK.due("10: from the keeper to itself", x.link(n, n), 0);
        }
        Cluster y = new Cluster();
        CHECK.due("10: empty", y.link(0, 3), 0);
        y.drop(0, 0);
        CHECK.due("10: one", y.link(0, 3), 1);
        CHECK.due("10: not the way back", y.link(3, 0), 0);
    }

    private static void messageEdges() {
        Cluster x = new Cluster();
        CHECK.outside("11: an empty link", () -> x.message(0, 3, 0, 0));
        x.drop(0, 0);
        x.drop(0, 1);
        outsideOf(0, 1, "11: message", i -> x.message(0, 3, i, 0));
        outsideOf(0, 5, "11: what", what -> x.message(0, 3, 0, what));
        CHECK.outside("11: from -1", () -> x.message(-1, 3, 0, 0));
        CHECK.outside("11: from 4", () -> x.message(4, 3, 0, 0));
        CHECK.outside("11: to -1", () -> x.message(0, -1, 0, 0));
        CHECK.outside("11: to 4", () -> x.message(0, 4, 0, 0));
        CHECK.same("11: 0 where there is none", x.message(0, 3, 1), "1 1 0 0 0 0");
        for (int i = 2; i < 60; i++) {
            x.drop(0, 0);
        }
        outsideOf(0, 59, "11: of a full link", i -> x.message(0, 3, i, 0));
        CHECK.due("11: the last one", x.message(0, 3, 59, 1), 59);
    }

    private static void deliverEdges() {
        Cluster x = new Cluster();
        outsideOf(0, 3, "12: deliver from", from -> x.deliver(from, 0));
        outsideOf(0, 3, "12: deliver to", to -> x.deliver(0, to));
        CHECK.due("12: none there", x.deliver(3, 3), 0);
        CHECK.due("12: none is counted", x.told(3), 0);
        x.drop(0, 0);
        CHECK.due("12: its kind", x.deliver(0, 3), 1);
        CHECK.due("12: none left", x.deliver(0, 3), 0);
        CHECK.due("12: one was delivered", x.told(3), 1);
        x.down(0);
        CHECK.due("12: to one that is down", x.deliver(3, 0), 2);
        CHECK.due("12: that counts", x.told(3), 2);
        CHECK.due("12: and nothing comes of it", x.told(2), 0);
    }

    private static void loseEdges() {
        Cluster x = new Cluster();
        outsideOf(0, 3, "13: lose from", from -> x.lose(from, 0));
        outsideOf(0, 3, "13: lose to", to -> x.lose(0, to));
        CHECK.due("13: none there", x.lose(3, 3), 0);
        x.drop(0, 0);
        x.drop(0, 1);
        CHECK.due("13: its kind", x.lose(0, 3), 1);
        CHECK.due("13: the first one went", x.message(0, 3, 0, 1), 1);
        CHECK.due("13: its kind", x.lose(0, 3), 1);
        CHECK.due("13: none left", x.lose(0, 3), 0);
        CHECK.due("28: none was delivered", x.told(3), 0);
        CHECK.due("28: none was lost for want of room", x.told(4), 0);
    }

    // ---- 14 and 15: time

    private static void tickEdges() {
        Cluster x = new Cluster();
        CHECK.due("14: now is 0 at first", x.told(0), 0);
        CHECK.due("14: the first", x.tick(), 1);
        CHECK.due("14: the second", x.tick(), 2);
        for (int node = 0; node <= 3; node++) {
            x.down(node);
        }
        CHECK.due("14: also when all are down", x.tick(), 3);
    }

    private static void runEdges() {
        Cluster x = new Cluster();
        refusedOf(0, 60, "15: run", times -> x.run(times));
        CHECK.due("15: 60 ticks, and those refused are none", x.told(0), 60);
        CHECK.due("15: no times: nothing", x.run(0), 0);
        CHECK.due("15: and no tick", x.told(0), 60);
    }

    /** What comes on a LINK whose turn was there waits; what comes on a later one is DELIVERED at once. */
    private static void runTurns() {
        Cluster x = new Cluster(2, 1, 1);
        x.drop(0, 0);
        CHECK.due("15: ROUTE from 0, MAP from the keeper", x.run(1), 2);
        CHECK.same("15: WRITE on a link that had its turn", x.kinds(0, 0), "3");
        CHECK.due("15: WRITE, but not the DONE that it leaves on its own link", x.run(1), 1);
        CHECK.same("15: that waits", x.kinds(0, 0), "5");
        CHECK.due("15: DONE, two BEATS", x.run(1), 3);
        CHECK.due("28: what was delivered in all", x.told(3), 6);
        x.down(0);
        x.down(1);
        x.run(1);
        x.start(0);
        x.drop(0, 0);
        CHECK.due("15: HELLO and ROUTE, CONFIG and MAP", x.run(1), 4);
    }

    // ---- 16 to 19: up and down

    private static void upEdges() {
        for (int n = 1; n <= 5; n += 4) {
            Cluster x = new Cluster(n, 1, 1);
            outsideOf(0, n, "16: up", node -> x.up(node));
            CHECK.due("16: the keeper is up", x.up(n), 1);
            x.down(n);
            CHECK.due("16: the keeper is down", x.up(n), 0);
            CHECK.due("16: the others are not", x.up(n - 1), 1);
        }
    }

    private static void downEdges() {
        Cluster x = new Cluster();
        x.drop(0, 0);
        x.drop(0, 1);
        x.drop(1, 1);
        for (int wrong : beyond(0, 3)) {
            CHECK.outside("17: down " + wrong, () -> x.down(wrong));
        }
        CHECK.due("17: two failed", x.down(0), 2);
        CHECK.due("17: down already", x.down(0), 0);
        CHECK.due("17: those of another are open", x.request(2, 0), 0);
        x.run(4);
        CHECK.due("17: what is done does not fail", x.down(1), 0);
        CHECK.due("17: the keeper has none", x.down(3), 0);
        CHECK.due("17: node 2 has none", x.down(2), 0);
    }

    private static void startEdges() {
        Cluster x = new Cluster();
        for (int wrong : beyond(0, 3)) {
            CHECK.outside("18: start " + wrong, () -> x.start(wrong));
        }
        CHECK.notNow("18: node 0 is up", () -> x.start(0));
        CHECK.notNow("18: the keeper is up", () -> x.start(3));
        CHECK.due("18: nothing was sent", x.told(2), 0);
        x.down(0);
        CHECK.due("18: up again", x.start(0), 1);
        CHECK.notNow("18: once", () -> x.start(0));
        CHECK.same("18: HELLO", x.newest(0, 3), "15 0 0 0 0 0");
        x.down(3);
        CHECK.due("18: the keeper", x.start(3), 1);
        CHECK.due("18: sends none", x.told(2), 1);
    }

    private static void failEdges() {
        Cluster x = new Cluster();
        for (int wrong : beyond(0, 3)) {
            CHECK.outside("19: node " + wrong, () -> x.fail(wrong, 1, 0));
        }
        CHECK.outside("19: the node before the rest", () -> x.fail(4, 1001, 64));
        CHECK.fine("19: node 0", () -> x.fail(0, 1, 0));
        CHECK.fine("19: the keeper", () -> x.fail(3, 1, 0));
        refusedOf(0, 1000, "19: m", m -> x.fail(0, m, 0));
        refusedOf(0, 63, "19: k", k -> x.fail(0, 1, k));
        x.fail(0, 0, 0);
        CHECK.refused("19: refused", () -> x.fail(0, 1, 64));
        x.drop(0, 0);
        x.run(4);
        CHECK.due("19: changes nothing", x.up(0), 1);
        CHECK.refused("19: k counts with m = 0, too", () -> x.fail(0, 0, 64));
    }

    private static void failHolds() {
        Cluster x = new Cluster(1, 1, 1);
        x.fail(0, 2, 0);
        x.down(0);
        x.start(0);
        CHECK.due("19: reading writes nothing", x.told(5), 0);
        x.run(1);
        x.run(1);
        CHECK.due("19: the CUT is its first block", x.up(0), 1);
        x.down(0);
        x.start(0);
        x.run(2);
        CHECK.due("19: the next one the second, through down and start", x.up(0), 0);
        CHECK.due("19: it came, so it holds no more", x.start(0), 1);
        x.run(2);
        CHECK.due("19: primary", x.copy(0, 0, 5), 2);
        x.fail(0, 1, 0);
        x.fail(0, 3, 0);
        x.drop(0, 0);
        x.drop(0, 1);
        x.run(3);
        CHECK.due("19: the latest told holds", x.up(0), 1);
        x.fail(0, 0, 0);
        x.drop(0, 2);
        x.drop(0, 3);
        x.run(3);
        CHECK.due("19: m = 0: it does not", x.up(0), 1);
        x.fail(0, 1, 63);
        x.drop(0, 4);
        x.run(2);
        CHECK.due("19: m = 1: at the next one", x.up(0), 0);
    }

    // ---- 20 to 24: copies

    private static void copyEdges() {
        Cluster x = new Cluster();
        outsideOf(0, 8, "20: what", what -> x.copy(0, 0, what));
        outsideOf(0, 1, "20: node", node -> x.copy(node, 0, 0));
        outsideOf(1, 2, "20: node", node -> x.copy(node, 1, 0));
        outsideOf(0, 1, "20: shard", shard -> x.copy(1, shard, 0));
        CHECK.outside("20: the keeper has none", () -> x.copy(3, 0, 0));
        x.down(0);
        for (int what = 0; what <= 8; what++) {
            CHECK.due("20: down", x.copy(0, 0, what), -1);
        }
        CHECK.outside("20: what 9, down", () -> x.copy(0, 0, 9));
        CHECK.outside("20: no copy, down", () -> x.copy(0, 1, 0));
    }

    private static void otherEdges() {
        Cluster x = new Cluster(5, 1, 3);
        outsideOf(0, 3, "21: what", what -> x.other(0, 0, 1, what));
        outsideOf(1, 2, "21: x", node -> x.other(0, 0, node, 0));
        outsideOf(0, 0, "21: shard", shard -> x.other(0, shard, 1, 0));
        outsideOf(0, 2, "21: node", node -> x.other(node, 0, node == 1 ? 2 : 1, 0) + x.other(0, 0, 1, 0));
        CHECK.outside("21: itself", () -> x.other(1, 0, 1, 0));
        CHECK.outside("21: one without a copy", () -> x.other(0, 0, 3, 0));
        CHECK.outside("21: the keeper as x", () -> x.other(0, 0, 5, 0));
        CHECK.outside("21: the keeper", () -> x.other(5, 0, 1, 0));
        CHECK.due("21: a follower has none", x.other(1, 0, 0, 0), -1);
        CHECK.outside("21: what 4 of a follower", () -> x.other(1, 0, 0, 4));
        x.down(0);
        CHECK.due("21: down", x.other(0, 0, 1, 0), -1);
        CHECK.outside("21: what 4, down", () -> x.other(0, 0, 1, 4));
        Cluster y = new Cluster(1, 1, 1);
        CHECK.outside("21: one copy alone", () -> y.other(0, 0, 0, 0));
    }

    private static void viewEdges() {
        Cluster x = new Cluster(5, 4, 1);
        outsideOf(0, 3, "22: what", what -> x.view(0, 0, what));
        outsideOf(0, 3, "22: the keeper's what", what -> x.view(5, 0, what));
        outsideOf(0, 3, "22: the keeper's shard", shard -> x.view(5, shard, 0));
        outsideOf(2, 2, "22: a node's shard", shard -> x.view(2, shard, 0));
        CHECK.outside("22: node -1", () -> x.view(-1, 0, 0));
        CHECK.outside("22: node 6", () -> x.view(6, 0, 0));
        CHECK.outside("22: node 4 has no copy", () -> x.view(4, 3, 0));
        x.down(0);
        x.down(5);
        for (int what = 0; what <= 3; what++) {
            CHECK.due("22: a node that is down", x.view(0, 0, what), -1);
            CHECK.due("22: the keeper is down", x.view(5, 0, what), -1);
        }
        CHECK.outside("22: what 4, down", () -> x.view(5, 0, 4));
    }

    private static void documentEdges() {
        Cluster x = new Cluster(1, 1, 1);
        outsideOf(0, 2, "23: what", what -> x.document(0, 0, what));
        outsideOf(0, 99, "23: document", document -> x.document(0, document, 0));
        CHECK.outside("23: node -1", () -> x.document(-1, 0, 0));
        CHECK.outside("23: the keeper", () -> x.document(1, 0, 0));
        CHECK.due("23: none", x.document(0, 0, 0), -1);
        x.put(0, 0);
        x.run(3);
        CHECK.due("23: request 0", x.document(0, 0, 0), 0);
        CHECK.due("23: not in the index", x.document(0, 0, 2), -1);
        x.down(0);
        for (int what = 0; what <= 2; what++) {
            CHECK.due("23: down", x.document(0, 0, what), -1);
        }
        CHECK.outside("23: what 3, down", () -> x.document(0, 0, 3));
        Cluster y = new Cluster(4, 4, 1);
        CHECK.fine("23: 99 is of shard 3", () -> y.document(3, 99, 0));
        CHECK.outside("23: node 3 has no copy of shard 2", () -> y.document(3, 98, 0));
    }

    private static void actEdges() {
        Cluster x = new Cluster(1, 1, 1);
        x.refresh(0, 0);
        x.puts(0, 3);
        x.run(3);
        int[] due = {-1, 1, 2, 3, -1};
        for (int number = 0; number < due.length; number++) {
            CHECK.due("24: act " + number, x.act(0, 0, number), due[number]);
        }
        for (int far : new int[] {-1, 64, 512, 500, 65536, Integer.MIN_VALUE, Integer.MAX_VALUE}) {
            CHECK.due("24: act " + far, x.act(0, 0, far), -1);
        }
        outsideOf(0, 0, "24: node", node -> x.act(node, 0, 1));
        outsideOf(0, 0, "24: shard", shard -> x.act(0, shard, 1));
        x.down(0);
        CHECK.due("24: down", x.act(0, 0, 1), -1);
        Cluster y = new Cluster(1, 1, 1);
        y.puts(0, 60);
        y.put(0, 0);
        y.run(12);
        CHECK.due("24: the base is at 60", y.copy(0, 0, 1), 60);
        CHECK.due("24: one at the base is not told", y.act(0, 0, 60), -1);
        CHECK.due("24: the one behind it is", y.act(0, 0, 61), 60);
        CHECK.due("24: and none behind the last", y.act(0, 0, 62), -1);
    }

    // ---- 25 to 28: disks, segments, counts

    private static void diskEdges() {
        Cluster x = new Cluster();
        outsideOf(0, 201, "25: block", block -> x.disk(0, 0, block, 0));
        outsideOf(0, 63, "25: octet", i -> x.disk(0, 0, 0, i));
        outsideOf(0, 201, "25: the keeper's block", block -> x.disk(3, 0, block, 0));
        outsideOf(0, 63, "25: the keeper's octet", i -> x.disk(3, 0, 0, i));
        outsideOf(0, 0, "25: the keeper's shard", shard -> x.disk(3, shard, 1, 0));
        outsideOf(0, 1, "25: a node's shard", shard -> x.disk(1, shard, 1, 0));
        CHECK.outside("25: no copy there", () -> x.disk(0, 1, 0, 0));
        CHECK.outside("25: node -1", () -> x.disk(-1, 0, 0, 0));
        CHECK.outside("25: node 4", () -> x.disk(4, 0, 0, 0));
        CHECK.due("25: without a sign", x.disk(0, 0, 103, 5), 255);
        x.down(0);
        x.down(3);
        CHECK.due("25: of one that is down", x.disk(0, 0, 103, 5), 255);
        CHECK.due("25: the keeper's when down", x.disk(3, 0, 102, 9), 255);
    }

    private static Cluster withSegment() {
        Cluster x = new Cluster(2, 1, 1);
        x.put(0, 5, "cat");
        x.run(3);
        x.refresh(0, 0);
        x.run(3);
        return x;
    }

    private static void segmentEdges() {
        Cluster empty = new Cluster(2, 1, 1);
        CHECK.outside("26: none yet", () -> empty.segment(0, 0, 0, 0));
        Cluster x = withSegment();
        outsideOf(0, 2, "26: what", what -> x.segment(0, 0, 0, what));
        outsideOf(0, 0, "26: segment", g -> x.segment(0, 0, g, 0));
        outsideOf(0, 0, "26: shard", shard -> x.segment(0, shard, 0, 0));
        outsideOf(0, 0, "26: node", node -> x.segment(node, 0, 0, 0));
        x.down(0);
        CHECK.outside("26: down", () -> x.segment(0, 0, 0, 0));
        x.start(0);
        CHECK.due("26: up again", x.segment(0, 0, 0, 0), 1);
    }

    private static void octetEdges() {
        Cluster x = withSegment();
        // one document: 5, LENGTH 1; one WORD: 0, 3, cat; in one document: 0, once, at 0
        CHECK.same("27: all of them", x.segment(0, 0, 0), "1 5 1 1 0 3 99 97 116 1 0 1 0");
        outsideOf(0, 12, "27: octet", i -> x.octet(0, 0, 0, i));
        outsideOf(0, 0, "27: segment", g -> x.octet(0, 0, g, 0));
        outsideOf(0, 0, "27: shard", shard -> x.octet(0, shard, 0, 0));
        outsideOf(0, 0, "27: node", node -> x.octet(node, 0, 0, 0));
        x.down(0);
        CHECK.outside("27: down", () -> x.octet(0, 0, 0, 0));
    }

    private static void toldEdges() {
        Cluster x = new Cluster();
        outsideOf(0, 6, "28: told", what -> x.told(what));
        Cluster y = new Cluster(1, 1, 1);
        y.drop(0, 0);
        y.drop(0, 0);
        y.deliver(0, 1, 2);
        CHECK.due("28: messages of the keeper", y.told(2), 2);
        y.deliver(1, 0, 2);
        CHECK.due("28: messages of a node to itself", y.told(2), 2);
        CHECK.due("28: delivered", y.told(3), 4);
    }
}
