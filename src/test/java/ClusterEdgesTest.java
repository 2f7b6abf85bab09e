/** The edges that the document's terms 1, THE CLUSTER, and 2, DISKS, name: each sentence by itself. */
public final class ClusterEdgesTest {
    private static final Check CHECK = new Check();
    private static final String FORTY = "abcdefghijklmnopqrstuvwxyz 0123456789 ab";

    public static void main(String[] args) {
        placesOfCopies();
        documentsOfShards();
        sixtyFirstIsLost();
        roomOnOneLinkAlone();
        deliveredMakesRoom();
        lostAnswers();
        slotsAreUsedAgain();
        heads();
        formsOfRecords();
        formOfView();
        numbersOfTwoOctets();
        doneBits();
        oneOrTwoBlocks();
        recordEndsWithBlock();
        lastOctetIsMissing();
        flush();
        headOfAFlush();
        doneAtTheBase();
        doneOfAHighNumber();
        flushWithUnsureActs();
        blocksThatChange();
        firstOctetChanges();
        whichGenerationCounts();
        tornHead();
        tornFlush();
        keeperHalfIsFull();
        tornAtTheHalfsEnd();
        tornInTheLastTwo();
        keeperHeadIsTorn();
        keeperTearsInATick();
        failsAtTheFirstBlock();
        failsAtTheThousandth();
        sentBeforeIsSent();
        nothingElseIsDone();
        countsBlocksOfAllDisks();
        downHasNothing();
        wipesTwoBlocks();
        wipesAtBlockBegin();
        wipesNothing();
        readIsTorn();
        readOfNothing();
        readSure();
        readShownTellsSure();
        readShownAtLeastBase();
        readCut();
        readActsThatTore();
        readDocuments();
        readIndex();
        keeperReads();
        keeperHeardAll();
        CHECK.end("ClusterEdgesTest");
    }

    // ---- 1 THE CLUSTER

    /** "those of shard h at the nodes (h + i) % n" */
    private static void placesOfCopies() {
        Cluster x = new Cluster(3, 4, 2);
        CHECK.same("places: shard 1 at 1, 2", x.view(3, 1), "1 1 6 1");
        CHECK.same("places: shard 2 at 2 and, round, 0", x.view(3, 2), "1 2 5 1");
        CHECK.same("places: shard 3 at 0, round, and 1", x.view(3, 3), "1 0 3 1");
        CHECK.due("places: shard 3's primary", x.copy(0, 3, 5), 2);
        CHECK.due("places: shard 3 follows at 1", x.copy(1, 3, 5), 1);
        CHECK.outside("places: not at 2", () -> x.copy(2, 3, 5));
        Cluster one = new Cluster(1, 4, 1);
        for (int shard = 0; shard < 4; shard++) {
            CHECK.same("places: all at node 0", one.view(0, shard), "1 0 1 1");
        }
        Cluster all = new Cluster(3, 4, 3);
        for (int node = 0; node < 3; node++) {
            CHECK.due("places: a copy of each at each", all.view(node, 3, 2), 7);
        }
    }

    /** "document d is of shard d % s" */
    private static void documentsOfShards() {
        for (int s = 1; s <= 4; s++) {
            Cluster x = new Cluster(4, s, 1);
            for (int d : new int[] {0, 1, 2, 3, 4, 98, 99}) {
                for (int node = 0; node < s; node++) {
                    int holder = node;
                    if (node == d % s) {
                        CHECK.fine(d + " is of shard " + node + " of " + s, () -> x.document(holder, d, 0));
                    } else {
                        CHECK.outside(d + " is not of shard " + node + " of " + s, () -> x.document(holder, d, 0));
                    }
                }
            }
        }
        Cluster x = new Cluster(4, 4, 1);
        x.put(0, 99);
        x.run(4);
        CHECK.due("99 went to shard 3 of 4", x.document(3, 99, 0), 0);
    }

    /** "one that would be the 61st on its LINK is lost" */
    private static void sixtyFirstIsLost() {
        Cluster x = new Cluster();
        x.puts(2, 60);
        CHECK.due("61st: 60 are there", x.link(2, 3), 60);
        CHECK.due("61st: none is lost", x.told(4), 0);
        CHECK.due("61st: the request comes all the same", x.drop(2, 0), 60);
        CHECK.due("61st: its message is lost", x.link(2, 3), 60);
        CHECK.due("61st: one is", x.told(4), 1);
        CHECK.due("61st: the first one stays the first", x.message(2, 3, 0, 1), 0);
        x.lose(2, 3);
        CHECK.due("61st: lost by a call is not for want of room", x.told(4), 1);
        x.drop(2, 0);
        CHECK.due("61st: room again", x.message(2, 3, 59, 1), 61);
        x.tick();
        x.tick();
        CHECK.due("61st: a BEAT is lost, too", x.told(4), 2);
    }

    private static void roomOnOneLinkAlone() {
        Cluster x = new Cluster();
        x.puts(0, 60);
        x.drop(1, 0);
        CHECK.due("room: another link has its own", x.link(1, 3), 1);
        CHECK.due("room: none is lost", x.told(4), 0);
        CHECK.due("room: all", x.told(2), 61);
    }

    /** A MESSAGE that is DELIVERED is off its LINK before what it sets going is SENT. */
    private static void deliveredMakesRoom() {
        Cluster x = new Cluster(1, 1, 1);
        x.puts(0, 60);
        x.deliver(0, 1, 60);
        x.deliver(1, 0, 60);
        CHECK.due("self: 60 WRITES on the link to itself", x.link(0, 0), 60);
        CHECK.due("self: one is delivered", x.deliver(0, 0), 3);
        CHECK.due("self: its DONE is the 60th", x.link(0, 0), 60);
        CHECK.due("self: nothing is lost", x.told(4), 0);
        CHECK.same("self: DONE", x.message(0, 0, 59), "5 0 0 0 0 0");
    }

    /** What is lost for want of room is SENT for its sender: a SYNC that finds no room counts as one. */
    private static void lostAnswers() {
        Cluster x = new Cluster(1, 1, 1);
        x.puts(0, 60);
        x.deliver(0, 1, 60);
        x.put(0, 60);
        CHECK.due("answers: 60 MAPS", x.link(1, 0), 60);
        x.deliver(0, 1);
        CHECK.due("answers: the 61st is lost", x.link(1, 0), 60);
        CHECK.due("answers: the ROUTE is gone", x.link(0, 1), 0);
        CHECK.due("answers: one is lost", x.told(4), 1);
    }

    /** 61 and more MESSAGES go over a LINK: what they told is gone with them. */
    private static void slotsAreUsedAgain() {
        Cluster x = new Cluster(1, 1, 1);
        x.tick();
        for (int i = 0; i < 130; i++) {
            x.refresh(0, 0);
            x.lose(0, 1);
        }
        x.tick();
        CHECK.same("used again: BEAT", x.kinds(0, 1) + ": " + x.newest(0, 1), "16: 16 0 0 0 0 0");
        x.down(0);
        x.start(0);
        CHECK.same("used again: HELLO", x.newest(0, 1), "15 0 0 0 0 0");
        Cluster y = new Cluster(1, 1, 1);
        y.put(0, 7, "cat");
        y.run(3);
        y.refresh(0, 0);
        y.run(3);
        for (int i = 0; i < 40; i++) {
            int r = y.find(0, 1, "cat");
            y.run(5);
            CHECK.same("used again: find " + i, y.hits(r), "7:32");
        }
    }

    // ---- 2 DISKS: how they are

    /** "Octet 0 of a HEAD is its GENERATION (0: none ..), all else in it is 0" */
    private static void heads() {
        Cluster x = new Cluster();
        for (int i = 0; i < 64; i++) {
            CHECK.due("heads: none in HEAD 0", x.disk(0, 0, 0, i), 0);
            CHECK.due("heads: 1 in HEAD 1", x.disk(0, 0, 1, i), i == 0 ? 1 : 0);
            CHECK.due("heads: the keeper's", x.disk(3, 0, 1, i), i == 0 ? 1 : 0);
        }
        CHECK.same("heads: nothing in HALF 0", x.octets(0, 0, 0, 0, 3), "0 0 0");
        CHECK.due("heads: the generation that counts", x.copy(0, 0, 7), 1);
    }

    private static void formsOfRecords() {
        Cluster x = new Cluster(1, 1, 1);
        x.put(0, 7, "a b");
        x.drop(0, 99);
        x.put(0, 0);
        x.run(3);
        x.refresh(0, 0);
        x.run(3);
        x.down(0);
        x.start(0);
        x.run(1);
        CHECK.same("forms: PUT", x.octets(0, 0, 1, 75, 15), "1 12 0 1 0 1 0 0 0 0 7 97 32 98 255");
        CHECK.same("forms: DROP", x.octets(0, 0, 1, 90, 12), "2 9 0 2 0 1 0 1 0 1 99 255");
        CHECK.same("forms: PUT of no octets", x.octets(0, 0, 1, 102, 12), "1 9 0 3 0 1 0 2 0 2 0 255");
        CHECK.same("forms: SHOWN", x.octets(0, 0, 1, 114, 5), "4 2 0 3 255");
        CHECK.same("forms: CUT", x.octets(0, 0, 1, 119, 7), "3 4 0 3 0 2 255");
        CHECK.same("forms: 0s behind", x.octets(0, 0, 1, 126, 4), "0 0 0 0");
    }

    private static void formOfView() {
        Cluster x = new Cluster(5, 4, 3);
        CHECK.same("view: shard 3 at 3, 4, 0", x.octets(5, 0, 1, 30, 12), "7 7 3 0 1 3 25 0 1 255 0 0");
        x.down(3);
        x.start(3);
        x.drain(3, 5);
        // HELLO of node 3: of shard 3 it is the primary; the least of 0, 3, 4 is 0
        CHECK.same("view: TERM and VERSION 2", x.octets(5, 0, 1, 40, 12), "7 7 3 0 2 0 25 0 2 255 0 0");
    }

    /** "u2 are numbers of .. two octets without a sign, the higher octet first" */
    private static void numbersOfTwoOctets() {
        Cluster x = new Cluster(1, 1, 1);
        for (int i = 0; i < 5; i++) {
            x.puts(0, 52);
            x.run(2);
            x.lose(0, 1);
        }
        x.run(1);
        CHECK.due("u2: 260 acts", x.copy(0, 0, 2), 260);
        CHECK.due("u2: the base", x.copy(0, 0, 1), 240);
        // the fifth GENERATION: BASE, 52 DOCUMENTS, SHOWN, acts 241 on; 256 is the 16th
        int at = 70 + 52 * 6 + 5;
        CHECK.same("u2: BASE", x.octets(0, 0, 1, 0, 6), "5 67 0 240 0 1");
        CHECK.same("u2: act 255", x.octets(0, 0, 1, at + 14 * 12, 12), "1 9 0 255 0 1 0 254 0 254 46 255");
        CHECK.same("u2: act 256", x.octets(0, 0, 1, at + 15 * 12, 12), "1 9 1 0 0 1 0 255 0 255 47 255");
        CHECK.same("u2: act 257", x.octets(0, 0, 1, at + 16 * 12, 12), "1 9 1 1 0 1 1 0 1 0 48 255");
        x.down(0);
        x.start(0);
        CHECK.due("u2: read again", x.copy(0, 0, 2), 260);
        CHECK.due("u2: SURE, too", x.copy(0, 0, 3), 259);
        CHECK.due("u2: its request", x.act(0, 0, 257), 256);
    }

    /** "bit r % 8 (0 the lowest) of octet r / 8 is 1 when REQUEST r is DONE" */
    private static void doneBits() {
        Cluster x = new Cluster(1, 1, 1);
        x.put(0, 3, "ab");
        x.refresh(0, 0);
        for (int i = 0; i < 58; i++) {
            x.drop(0, 50);
        }
        x.run(3);
        x.drop(0, 50);
        x.run(3);
        x.drop(0, 51);
        x.run(3);
        // 60 acts: requests 0 and 2 to 60
        CHECK.same("bits: BASE", x.octets(0, 0, 0, 0, 15), "5 67 0 60 0 1 253 255 255 255 255 255 255 31 0");
        CHECK.same("bits: its end", x.octets(0, 0, 0, 66, 4), "0 0 0 255");
    }

    /** "A RECORD is WRITTEN behind the others: the one or two BLOCKS in which it lies" */
    private static void oneOrTwoBlocks() {
        Cluster x = new Cluster(1, 1, 1);
        x.put(0, 0, FORTY);
        x.run(3);
        // 75 + 52 octets: one is left in BLOCK 103
        CHECK.due("blocks: one", x.told(5), 1);
        x.put(0, 1, FORTY);
        x.run(3);
        CHECK.due("blocks: two", x.told(5), 3);
        CHECK.due("blocks: kind in the first", x.disk(0, 0, 103, 63), 1);
        CHECK.due("blocks: k in the second", x.disk(0, 0, 104, 0), 49);
        CHECK.due("blocks: its end", x.disk(0, 0, 104, 50), 255);
        CHECK.due("blocks: behind it", x.disk(0, 0, 104, 51), 0);
    }

    private static void recordEndsWithBlock() {
        Cluster x = new Cluster(1, 1, 1);
        x.drop(0, 0);
        x.put(0, 1, FORTY.substring(0, 29));
        x.run(3);
        CHECK.due("block's end: the last octet", x.disk(0, 0, 103, 63), 255);
        CHECK.due("block's end: one block each", x.told(5), 2);
        x.drop(0, 2);
        x.run(3);
        CHECK.due("block's end: the next one begins a block", x.disk(0, 0, 104, 0), 2);
        CHECK.due("block's end: one block again", x.told(5), 3);
        x.down(0);
        x.start(0);
        CHECK.due("block's end: all are read", x.copy(0, 0, 2), 3);
        CHECK.due("block's end: nothing is wiped", x.told(5), 3);
    }

    /** RECORDS end "where its last octet is not 255" */
    private static void lastOctetIsMissing() {
        for (int k = 21; k <= 24; k++) {
            Cluster x = new Cluster(1, 1, 1);
            x.fail(0, 1, k);
            x.drop(0, 0);
            x.run(2);
            CHECK.due("255: down", x.up(0), 0);
            CHECK.due("255: the last octet", x.disk(0, 0, 103, 22), k > 22 ? 255 : 0);
            x.start(0);
            CHECK.due("255: " + k + " octets", x.copy(0, 0, 2), k > 22 ? 1 : 0);
            CHECK.due("255: what is torn is wiped", x.disk(0, 0, 103, 11), k > 22 ? 2 : 0);
            CHECK.due("255: by a block", x.told(5), k > 22 ? 1 : 2);
        }
    }

    // ---- 2 DISKS: FLUSH

    private static void flush() {
        Cluster x = new Cluster(1, 1, 1);
        x.put(0, 3, "ab");
        x.put(0, 4, "cd");
        x.run(3);
        x.refresh(0, 0);
        x.run(3);
        x.drop(0, 4);
        for (int i = 0; i < 57; i++) {
            x.put(0, 2, i == 56 ? "z" : "");
        }
        x.run(3);
        CHECK.same("flush: 60 acts, none yet", x.copy(0, 0), "1 0 60 60 2 2");
        CHECK.due("flush: generation 1", x.copy(0, 0, 7), 1);
        int before = x.told(5);
        x.put(0, 1, "y");
        x.run(3);
        CHECK.same("flush: the base is what was sure", x.copy(0, 0), "1 60 61 61 2 2");
        CHECK.due("flush: generation 2", x.copy(0, 0, 7), 2);
        CHECK.same("flush: its head", x.disk(0, 0, 0, 0) + " " + x.disk(0, 0, 1, 0), "2 1");
        CHECK.same("flush: a DOCUMENT for each, by numbers", x.octets(0, 0, 0, 70, 15),
                "6 4 2 0 60 122 255 6 5 3 0 0 97 98 255");
        CHECK.same("flush: SHOWN", x.octets(0, 0, 0, 85, 5), "4 2 0 2 255");
        CHECK.same("flush: the RECORD behind it", x.octets(0, 0, 0, 90, 14), "1 10 0 61 0 1 0 61 0 60 1 121 255 0");
        CHECK.due("flush: two blocks, the head, the RECORD's block", x.told(5) - before, 4);
        CHECK.due("flush: what was counted before stays", x.disk(0, 0, 102, 0), 5);
    }

    private static void headOfAFlush() {
        Cluster x = new Cluster(1, 1, 1);
        x.puts(0, 60);
        x.run(3);
        x.puts(0, 1);
        x.run(3);
        for (int i = 0; i < 64; i++) {
            CHECK.due("head: all else is 0", x.disk(0, 0, 0, i), i == 0 ? 2 : 0);
        }
    }

    /** A REQUEST that is DONE up to BASE is, also after a START: its WRITE is answered, and not done again. */
    private static void doneAtTheBase() {
        for (int test = 0; test < 4; test++) {
            Cluster x = new Cluster(2, 1, 1);
            for (int i = 0; i < (test < 2 ? 55 : 0); i++) {
                x.refresh(0, 0);
            }
            x.clear(0, 2);
            int late = x.put(1, 77);
            CHECK.due("done: its number", late, test < 2 ? 55 : 0);
            x.ask(1, 2, 0);
            CHECK.due("done: DONE is lost", x.lose(0, 1), 5);
            for (int i = 0; i < 10; i++) {
                x.refresh(0, 0);
            }
            x.clear(0, 2);
            x.puts(0, 60);
            x.run(3);
            CHECK.same("done: at the base", x.copy(0, 0), "1 60 61 61 0 2");
            if (test % 2 == 1) {
                x.down(0);
                x.start(0);
            }
            CHECK.due("done: it is open", x.request(late, 0), 0);
            x.run(9);
            CHECK.same("done: told at its next attempt", x.request(late, 0) + " " + x.request(late, 3), "1 1");
            CHECK.due("done: and done once", x.copy(0, 0, 2), 61);
            CHECK.due("done: its document", x.document(0, 77, 1), late);
        }
    }

    /** As many REQUESTS as there can be; one of the last of them is DONE up to BASE, and asked for again. */
    private static void doneOfAHighNumber() {
        Cluster x = new Cluster(1, 1, 1);
        x.puts(0, 2);
        x.run(1);
        for (int i = 2; i < 441; i++) {
            x.refresh(0, 0);
        }
        x.run(2);
        int late = x.put(0, 77);
        x.run(2);
        CHECK.due("high: DONE is lost", x.lose(0, 0), 5);
        x.puts(0, 58);
        x.run(3);
        CHECK.due("high: the base", x.copy(0, 0, 1), 60);
        CHECK.same("high: the bits of 440 to 447, of which all but one are done", x.octets(0, 0, 0, 6 + 55, 1), "254");
        x.run(6);
        CHECK.due("high: done at its next attempt", x.request(late, 0), 1);
        CHECK.due("high: and done once", x.copy(0, 0, 2), 61);
    }

    /** "then the ACTS behind SURE (each with its own TERM; with SURE as it is now)" */
    private static void flushWithUnsureActs() {
        Cluster x = new Cluster(2, 1, 2);
        x.puts(0, 30);
        x.run(4);
        x.puts(0, 5);
        x.run(4);
        CHECK.same("unsure: 35 are sure", x.copy(0, 0), "1 0 35 35 0 2");
        x.down(1);
        x.puts(0, 10);
        x.drain(0, 2);
        x.drain(2, 0);
        x.drain(0, 0);
        CHECK.same("unsure: ten are not", x.copy(0, 0), "1 0 45 35 0 2");
        x.down(0);
        x.start(0);
        x.drain(0, 2);
        x.drain(2, 0);
        CHECK.same("unsure: primary of TERM 2", x.copy(0, 0), "2 0 45 35 0 2");
        x.puts(0, 16);
        x.drain(0, 2);
        x.drain(2, 0);
        x.deliver(0, 0, 15);
        CHECK.same("unsure: 60 acts", x.copy(0, 0), "2 0 60 35 0 2");
        x.deliver(0, 0);
        CHECK.same("unsure: the base is 35", x.copy(0, 0), "2 35 61 35 0 2");
        CHECK.same("unsure: BASE", x.octets(0, 0, 0, 0, 6), "5 67 0 35 0 2");
        CHECK.same("unsure: SHOWN", x.octets(0, 0, 0, 250, 5), "4 2 0 0 255");
        CHECK.same("unsure: act 36 of TERM 1", x.octets(0, 0, 0, 255, 12), "1 9 0 36 0 1 0 35 0 35 0 255");
        CHECK.same("unsure: act 46 of TERM 2", x.octets(0, 0, 0, 375, 12), "1 9 0 46 0 2 0 45 0 35 0 255");
        CHECK.same("unsure: act 61", x.octets(0, 0, 0, 555, 12), "1 9 0 61 0 2 0 60 0 35 15 255");
        CHECK.due("unsure: the first one not at the base", x.act(0, 0, 36), 35);
        CHECK.due("unsure: the last one at it", x.act(0, 0, 35), -1);
        x.down(0);
        x.start(0);
        CHECK.same("unsure: read again", x.copy(0, 0), "2 35 61 35 35 0");
    }

    /** "those of its BLOCKS that are not so yet are written" */
    private static void blocksThatChange() {
        Cluster x = new Cluster(1, 1, 1);
        x.puts(0, 60);
        x.run(3);
        int before = x.told(5);
        x.drop(0, 99);
        x.run(3);
        // 70 + 60 * 6 + 5 octets, all 0 before: 7 BLOCKS, the HEAD, the RECORD's
        CHECK.due("change: generation 2", x.told(5) - before, 9);
        for (int i = 0; i < 59; i++) {
            x.drop(0, 99);
        }
        x.run(3);
        before = x.told(5);
        x.drop(0, 99);
        x.run(3);
        // 75 + 60 * 12 octets before: 7 BLOCKS become others, 6 become 0
        CHECK.due("change: generation 3", x.told(5) - before, 15);
        for (int i = 0; i < 59; i++) {
            x.drop(0, 99);
        }
        x.run(3);
        before = x.told(5);
        x.drop(0, 99);
        x.run(3);
        // BLOCKS 1 to 5 hold the same DOCUMENTS as before; 0 and 6 do not, 7 to 18 had acts
        CHECK.due("change: generation 4", x.told(5) - before, 16);
        CHECK.same("change: heads", x.disk(0, 0, 0, 0) + " " + x.disk(0, 0, 1, 0), "4 3");
        CHECK.due("change: 0s behind", x.disk(0, 0, 2 + 18, 0), 0);
    }

    /** DOCUMENT 9's REQUEST ends with the first octet of a BLOCK, and nothing else of that BLOCK becomes another. */
    private static void firstOctetChanges() {
        Cluster x = new Cluster(1, 1, 1);
        x.puts(0, 60);
        x.run(3);
        x.put(0, 9);
        for (int i = 0; i < 59; i++) {
            x.drop(0, 99);
        }
        x.run(4);
        CHECK.due("first octet: generation 2", x.disk(0, 0, 4, 0), 9);
        for (int i = 0; i < 60; i++) {
            x.drop(0, 99);
        }
        x.run(3);
        int before = x.told(5);
        x.drop(0, 99);
        x.run(3);
        CHECK.due("first octet: generation 4", x.disk(0, 0, 4, 0), 60);
        CHECK.due("first octet: one block more", x.told(5) - before, 17);
    }

    /** "The one that COUNTS is the GENERATION that comes behind the other one's, or the only one." */
    private static void whichGenerationCounts() {
        Cluster x = new Cluster(1, 1, 1);
        x.down(0);
        x.start(0);
        CHECK.due("counts: the only one", x.copy(0, 0, 7), 1);
        x.run(3);
        for (int generation = 2; generation <= 4; generation++) {
            x.puts(0, generation == 2 ? 58 : 57);
            x.run(3);
            x.puts(0, 3);
            x.run(3);
            CHECK.due("counts: it is written", x.disk(0, 0, generation % 2, 0), generation);
            CHECK.due("counts: the one before is there, too", x.disk(0, 0, 1 - generation % 2, 0), generation - 1);
            int last = x.copy(0, 0, 2);
            x.down(0);
            x.start(0);
            CHECK.due("counts: generation " + generation, x.copy(0, 0, 7), generation);
            CHECK.due("counts: its acts", x.copy(0, 0, 2), last);
            CHECK.due("counts: its base", x.copy(0, 0, 1), last - 1);
            x.run(3);
        }
    }

    private static void tornHead() {
        for (int k = 0; k <= 1; k++) {
            Cluster x = new Cluster(1, 1, 1);
            x.puts(0, 60);
            x.run(3);
            // 7 BLOCKS, then the HEAD
            x.fail(0, 8, k);
            x.drop(0, 99);
            x.run(3);
            CHECK.due("head: down", x.up(0), 0);
            CHECK.due("head: octet 0", x.disk(0, 0, 0, 0), 2 * k);
            CHECK.due("head: the half is there", x.disk(0, 0, 2, 0), 5);
            x.start(0);
            CHECK.due("head: the generation that counts", x.copy(0, 0, 7), 1 + k);
            CHECK.same("head: with " + k, x.copy(0, 0), k == 0 ? "1 0 60 59 0 0" : "1 60 60 60 60 0");
        }
    }

    private static void tornFlush() {
        Cluster x = new Cluster(1, 1, 1);
        x.puts(0, 60);
        x.run(3);
        x.fail(0, 3, 10);
        x.drop(0, 99);
        x.run(3);
        CHECK.due("torn: two blocks whole: DOCUMENT 9", x.disk(0, 0, 3, 62), 9);
        CHECK.due("torn: the third in part", x.disk(0, 0, 4, 9), 3);
        CHECK.due("torn: no more of it", x.disk(0, 0, 4, 10) + x.disk(0, 0, 4, 11) + x.disk(0, 0, 4, 12), 0);
        CHECK.due("torn: nothing behind it", x.disk(0, 0, 5, 0), 0);
        CHECK.due("torn: no head", x.disk(0, 0, 0, 0), 0);
        x.start(0);
        CHECK.same("torn: as before the flush", x.copy(0, 0), "1 0 60 59 0 0");
        CHECK.same("torn: what the 60th act put", x.document(0, 59, 0) + " " + x.document(0, 59, 1), "59 -1");
        x.run(3);
        int before = x.told(5);
        x.drop(0, 99);
        x.run(3);
        CHECK.same("torn: flushed anew", x.copy(0, 0), "2 60 61 61 0 2");
        // BLOCK 1 is so already; 0 has another TERM; 2 to 6, the HEAD, the RECORD's
        CHECK.due("torn: what was whole is not written again", x.told(5) - before, 8);
    }

    // ---- 2 DISKS: a full HALF

    /** A KEEPER of four shards writes four VIEWS of ten octets at each HELLO of its one node, which is DOWN then. */
    private static Cluster keeperThatHeard(int hellos) {
        Cluster x = new Cluster(1, 4, 1);
        x.down(0);
        for (int i = 1; i <= hellos; i++) {
            x.start(0);
            x.down(0);
            if (i % 60 == 0 || i == hellos) {
                x.run(1);
            }
        }
        return x;
    }

    /** A HALF has 640 VIEWS: with the four at first and those of 159 HELLOS it is full to its last octet. */
    private static void keeperHalfIsFull() {
        Cluster x = keeperThatHeard(159);
        CHECK.same("full: the last VIEW that fits", x.octets(1, 0, 1, 6390, 10), "7 7 3 0 160 0 1 0 160 255");
        CHECK.due("full: no flush yet", x.disk(1, 0, 0, 0), 0);
        x.down(1);
        CHECK.due("full: nothing behind the half is read or wiped", x.start(1), 1);
        // 80 of 636 lie in two BLOCKS
        CHECK.due("full: blocks were written", x.told(5), 716);
        CHECK.due("full: the last view", x.view(1, 3, 3), 160);
        x.start(0);
        x.deliver(0, 1);
        CHECK.due("full: now a flush", x.disk(1, 0, 0, 0), 2);
        CHECK.same("full: with views as they were", x.octets(1, 0, 0, 0, 10), "7 7 0 0 160 0 1 0 160 255");
        CHECK.same("full: and the new one behind them", x.octets(1, 0, 0, 40, 10), "7 7 0 0 161 0 1 0 161 255");
        // a BLOCK, the HEAD, four RECORDS: the third of these has two BLOCKS
        CHECK.due("full: blocks", x.told(5), 716 + 2 + 5);
        x.down(1);
        x.start(1);
        CHECK.due("full: read again", x.view(1, 3, 3), 161);
    }

    /** "(none behind the HALF; only if something changes)" */
    private static void tornAtTheHalfsEnd() {
        Cluster x = keeperThatHeard(158);
        x.start(0);
        // the fourth VIEW is at 6390: octets 54 to 63 of the HALF's last BLOCK
        x.fail(1, 4, 60);
        x.deliver(0, 1);
        CHECK.due("half's end: down", x.up(1), 0);
        CHECK.same("half's end: torn", x.octets(1, 0, 1, 6390, 10), "7 7 3 0 160 0 0 0 0 0");
        int before = x.told(5);
        CHECK.due("half's end: read", x.start(1), 1);
        CHECK.due("half's end: one block is wiped", x.told(5) - before, 1);
        CHECK.same("half's end: it is", x.octets(1, 0, 1, 6390, 10), "0 0 0 0 0 0 0 0 0 0");
        CHECK.due("half's end: the record before it stays", x.disk(1, 0, 201, 53), 255);
        CHECK.due("half's end: shard 3's view is as before", x.view(1, 3, 3), 159);
        CHECK.due("half's end: shard 2's is new", x.view(1, 2, 3), 160);
    }

    /** A RECORD in the last two BLOCKS of a HALF tears: both are wiped. */
    private static void tornInTheLastTwo() {
        Cluster x = keeperThatHeard(157);
        x.start(0);
        // the second VIEW is at 6330: six octets in the last BLOCK but one, four in the last
        x.fail(1, 3, 2);
        x.deliver(0, 1);
        CHECK.same("last two: torn", x.octets(1, 0, 1, 6330, 10), "7 7 1 0 159 0 1 0 0 0");
        int before = x.told(5);
        x.start(1);
        CHECK.same("last two: wiped", x.octets(1, 0, 1, 6330, 10), "0 0 0 0 0 0 0 0 0 0");
        CHECK.due("last two: two blocks", x.told(5) - before, 2);
        CHECK.due("last two: shard 0's view is new", x.view(1, 0, 3), 159);
        CHECK.due("last two: shard 1's is not", x.view(1, 1, 3), 158);
    }

    private static void keeperHeadIsTorn() {
        for (int k = 0; k <= 1; k++) {
            Cluster x = keeperThatHeard(159);
            x.start(0);
            x.fail(1, 2, k);
            x.deliver(0, 1);
            CHECK.due("keeper's head: octet 0", x.disk(1, 0, 0, 0), 2 * k);
            x.start(1);
            CHECK.due("keeper's head: the view of before", x.view(1, 0, 3), 160);
            int before = x.told(5);
            x.down(0);
            x.start(0);
            x.deliver(0, 1);
            CHECK.due("keeper's head: and a new one", x.view(1, 0, 3), 161);
            CHECK.due("keeper's head: behind the four", x.disk(1, 0, 2, 40), 7);
            CHECK.due("keeper's head: generation 2", x.disk(1, 0, 0, 0), 2);
            // four RECORDS in five BLOCKS; a HEAD before them, if none was written
            CHECK.due("keeper's head: blocks", x.told(5) - before, 6 - k);
        }
    }

    /** At a TICK, too: the RECORD is whole, and READ later, but nothing behind it is done. */
    private static void keeperTearsInATick() {
        Cluster x = new Cluster(2, 2, 2);
        x.ticks(7);
        x.fail(2, 2, 63);
        x.tick();
        CHECK.due("tick: the keeper is down", x.up(2), 0);
        CHECK.same("tick: CONFIG of shard 0 alone", x.kinds(2, 0) + " " + x.kinds(2, 1), "14 14");
        x.start(2);
        CHECK.same("tick: shard 0: node 0 is dead", x.view(2, 0), "2 1 2 2");
        CHECK.same("tick: shard 1: its record was whole", x.view(2, 1), "1 1 2 2");
        x.ticks(7);
        CHECK.same("tick: all were heard at its start", x.view(2, 0), "2 1 2 2");
        Cluster y = new Cluster(2, 2, 2);
        y.ticks(7);
        y.fail(2, 1, 63);
        y.tick();
        CHECK.due("tick: no CONFIG", y.link(2, 0) + y.link(2, 1), 0);
        y.start(2);
        CHECK.same("tick: shard 0's record was whole", y.view(2, 0), "2 1 2 2");
        CHECK.same("tick: shard 1's was not written", y.view(2, 1), "1 1 3 1");
    }

    // ---- 2 DISKS: a node FAILS

    private static void failsAtTheFirstBlock() {
        Cluster none = new Cluster(1, 1, 1);
        none.fail(0, 1, 0);
        none.drop(0, 0);
        none.run(2);
        CHECK.due("k 0: down", none.up(0), 0);
        CHECK.same("k 0: nothing is written", none.octets(0, 0, 1, 75, 12), "0 0 0 0 0 0 0 0 0 0 0 0");
        CHECK.due("k 0: the block counts", none.told(5), 1);
        CHECK.due("k 0: the request failed", none.request(0, 0), 2);
        Cluster all = new Cluster(1, 1, 1);
        all.fail(0, 1, 63);
        all.put(0, 0, FORTY);
        all.run(2);
        CHECK.due("k 63: down", all.up(0), 0);
        CHECK.due("k 63: 63 octets", all.disk(0, 0, 103, 62), 255);
        all.start(0);
        CHECK.due("k 63: a whole record", all.copy(0, 0, 2), 1);
    }

    private static void failsAtTheThousandth() {
        Cluster x = new Cluster(1, 1, 1);
        x.fail(0, 1000, 0);
        x.puts(0, 60);
        x.run(3);
        x.puts(0, 60);
        x.run(3);
        CHECK.due("1000: not yet", x.up(0), 1);
        x.fail(0, 2, 0);
        x.puts(0, 1);
        x.run(3);
        // the 121st: a FLUSH
        CHECK.due("1000: the second from now on", x.up(0), 0);
    }

    /** "(what was SENT before is SENT)" */
    private static void sentBeforeIsSent() {
        Cluster x = new Cluster(1, 2, 1);
        x.down(0);
        x.start(0);
        x.fail(1, 2, 0);
        x.deliver(0, 1);
        CHECK.due("sent: the keeper is down", x.up(1), 0);
        CHECK.same("sent: CONFIG of shard 0 alone", x.kinds(1, 0), "14");
        CHECK.same("sent: it is", x.message(1, 0, 0), "14 0 2 0 1 2");
        x.start(1);
        CHECK.same("sent: shard 0's view", x.view(1, 0), "2 0 1 2");
        CHECK.same("sent: shard 1's view is as before", x.view(1, 1), "1 0 1 1");
    }

    /** "what else would be done there is not done" */
    private static void nothingElseIsDone() {
        Cluster x = new Cluster(2, 1, 2);
        x.put(1, 0);
        x.deliver(1, 2);
        x.deliver(2, 1);
        x.fail(0, 1, 40);
        CHECK.due("else: WRITE", x.deliver(1, 0), 3);
        CHECK.due("else: down", x.up(0), 0);
        CHECK.due("else: no REPL", x.link(0, 1), 0);
        x.start(0);
        CHECK.due("else: but the act was written", x.act(0, 0, 1), 0);
        CHECK.due("else: the request is open at another host", x.request(0, 0), 0);
        // the keeper's: the RECORD is whole, but no CONFIG was SENT
        Cluster y = new Cluster(1, 1, 1);
        y.down(0);
        y.start(0);
        y.fail(1, 1, 20);
        y.deliver(0, 1);
        CHECK.due("else: no CONFIG", y.link(1, 0), 0);
        y.start(1);
        CHECK.same("else: but the view was written", y.view(1, 0), "2 0 1 2");
        Cluster z = new Cluster(1, 1, 1);
        z.down(0);
        z.start(0);
        z.fail(1, 1, 19);
        z.deliver(0, 1);
        z.start(1);
        CHECK.same("else: or not", z.view(1, 0), "1 0 1 1");
    }

    /** The BLOCKS of all of a node's DISKS count together. */
    private static void countsBlocksOfAllDisks() {
        Cluster x = new Cluster(1, 4, 1);
        x.fail(0, 3, 0);
        x.drop(0, 0);
        x.drop(0, 1);
        x.drop(0, 2);
        x.run(2);
        CHECK.due("all disks: down at the third", x.up(0), 0);
        x.start(0);
        CHECK.same("all disks: shards 0 to 3", x.copy(0, 0, 2) + " " + x.copy(0, 1, 2) + " " + x.copy(0, 2, 2),
                "1 1 0");
        Cluster y = new Cluster(2, 2, 1);
        y.fail(0, 1, 0);
        y.drop(0, 1);
        y.run(3);
        CHECK.due("all disks: another node's do not", y.up(0), 1);
    }

    /** "a node has nothing but its DISKS; MESSAGES on LINKS stay. Its open REQUESTS FAIL." */
    private static void downHasNothing() {
        Cluster x = new Cluster(1, 1, 1);
        int done = x.put(0, 0, "cat");
        x.run(3);
        int open = x.find(0, 1, "cat");
        x.deliver(0, 1, 2);
        x.deliver(1, 0);
        x.deliver(0, 0);
        CHECK.due("down: a context", x.told(6), 1);
        int onLinks = x.told(2);
        CHECK.due("down: one failed", x.down(0), 1);
        CHECK.due("down: its request", x.request(open, 0), 2);
        CHECK.due("down: not the one that is done", x.request(done, 0), 1);
        CHECK.due("down: no context", x.told(6), 0);
        CHECK.due("down: messages stay", x.told(2), onLinks);
        x.start(0);
        CHECK.due("down: nor after a start", x.told(6), 0);
        CHECK.due("down: and HELLO", x.told(2), onLinks + 1);
        x.run(6);
        CHECK.due("down: what failed stays so", x.request(open, 0), 2);
    }

    // ---- 2 DISKS: a node STARTS

    /** "first into the BLOCK behind the one in which the next RECORD would begin, then into that one" */
    private static void wipesTwoBlocks() {
        Cluster x = new Cluster(1, 1, 1);
        x.put(0, 0, FORTY);
        x.run(3);
        x.fail(0, 2, 30);
        x.put(0, 1, FORTY);
        x.run(3);
        CHECK.due("two: kind", x.disk(0, 0, 103, 63), 1);
        CHECK.due("two: torn", x.disk(0, 0, 104, 0), 49);
        x.fail(0, 2, 63);
        CHECK.due("two: the second of its blocks tears", x.start(0), 0);
        CHECK.due("two: the one behind was wiped first", x.disk(0, 0, 104, 0) + x.disk(0, 0, 104, 29), 0);
        CHECK.due("two: this one has its 64th octet yet", x.disk(0, 0, 103, 63), 1);
        CHECK.due("two: two blocks and two", x.told(5), 1 + 2 + 2);
        CHECK.due("two: once more", x.start(0), 1);
        CHECK.due("two: only what changes", x.told(5), 1 + 2 + 2 + 1);
        CHECK.due("two: wiped", x.disk(0, 0, 103, 63), 0);
        CHECK.due("two: the record before it stays", x.disk(0, 0, 103, 62), 255);
        CHECK.due("two: one act", x.copy(0, 0, 2), 1);
    }

    private static void wipesAtBlockBegin() {
        Cluster x = new Cluster(1, 1, 1);
        x.drop(0, 0);
        x.put(0, 1, FORTY.substring(0, 29));
        x.run(3);
        x.fail(0, 1, 5);
        x.drop(0, 2);
        x.run(3);
        CHECK.due("begin: torn at the begin of a block", x.disk(0, 0, 104, 0), 2);
        int before = x.told(5);
        x.start(0);
        CHECK.due("begin: that one is wiped", x.disk(0, 0, 104, 0), 0);
        CHECK.due("begin: the one before is not", x.disk(0, 0, 103, 63), 255);
        CHECK.due("begin: one block", x.told(5) - before, 1);
        CHECK.due("begin: two acts", x.copy(0, 0, 2), 2);
    }

    private static void wipesNothing() {
        Cluster x = new Cluster();
        x.drop(0, 0);
        x.run(3);
        int before = x.told(5);
        for (int node = 0; node <= 3; node++) {
            x.down(node);
            x.start(node);
        }
        CHECK.due("nothing: no block is written", x.told(5), before);
        x.fail(0, 1, 0);
        x.down(0);
        CHECK.due("nothing: so it cannot fail in that", x.start(0), 1);
    }

    /** "Answers whether it is UP then (it may FAIL in that)": other DISKS are not READ, no HELLO is SENT. */
    private static void readIsTorn() {
        Cluster x = new Cluster(1, 2, 1);
        x.fail(0, 1, 15);
        x.drop(0, 0);
        x.run(2);
        x.clear(0, 1);
        x.fail(0, 1, 0);
        CHECK.due("read: it fails", x.start(0), 0);
        CHECK.due("read: down", x.up(0), 0);
        CHECK.due("read: no HELLO", x.link(0, 1), 0);
        CHECK.due("read: nothing is told", x.copy(0, 1, 0), -1);
        CHECK.due("read: torn yet", x.disk(0, 0, 103, 11), 2);
        CHECK.due("read: again", x.start(0), 1);
        CHECK.same("read: HELLO", x.kinds(0, 1), "15");
    }

    /** "ROLE 0; its VIEWS are unknown: VERSION 0, MASK 0, TERM 0, primary NONE" */
    private static void readOfNothing() {
        Cluster x = new Cluster();
        x.down(1);
        x.start(1);
        for (int shard = 0; shard < 2; shard++) {
            CHECK.same("unknown: view", x.view(1, shard), "0 -1 0 0");
            CHECK.same("unknown: copy", x.copy(1, shard), "1 0 0 0 0 0");
            CHECK.due("unknown: no segment without documents", x.copy(1, shard, 6), 0);
        }
        x.ticks(4);
        CHECK.same("unknown: it asks nobody to join", x.kinds(1, 0) + x.kinds(1, 1) + x.kinds(1, 2), "");
    }

    private static void readSure() {
        Cluster x = new Cluster(1, 1, 1);
        x.puts(0, 1);
        x.run(3);
        CHECK.same("sure: one act", x.copy(0, 0), "1 0 1 1 0 2");
        x.down(0);
        x.start(0);
        CHECK.same("sure: its record tells what was sure before", x.copy(0, 0), "1 0 1 0 0 0");
        CHECK.due("sure: by all acts", x.document(0, 0, 0), 0);
        CHECK.due("sure: up to sure", x.document(0, 0, 1), -1);
        x.run(3);
        x.puts(0, 2);
        x.run(3);
        x.down(0);
        x.start(0);
        CHECK.same("sure: the greatest that is told", x.copy(0, 0), "2 0 3 2 0 0");
    }

    /** "SURE the greatest (SHOWN tells it, too ..)" */
    private static void readShownTellsSure() {
        Cluster x = new Cluster(1, 1, 1);
        x.put(0, 0, "cat");
        x.put(0, 1, "dog");
        x.run(3);
        x.refresh(0, 0);
        x.run(3);
        x.puts(0, 1);
        x.run(3);
        x.down(0);
        x.start(0);
        CHECK.same("shown: it tells sure", x.copy(0, 0), "1 0 3 2 2 0");
        CHECK.due("shown: one segment", x.copy(0, 0, 6), 1);
        CHECK.due("shown: of the documents there", x.segment(0, 0, 0, 0), 2);
        CHECK.due("shown: as they were then", x.document(0, 0, 2), 0);
        CHECK.due("shown: by all acts", x.document(0, 0, 0), 3);
    }

    /** "SHOWN the greatest (at least BASE)" */
    private static void readShownAtLeastBase() {
        Cluster x = new Cluster(1, 1, 1);
        x.puts(0, 60);
        x.run(3);
        x.puts(0, 1);
        x.run(3);
        CHECK.same("at least: nothing is shown", x.copy(0, 0), "1 60 61 61 0 2");
        CHECK.due("at least: no segment", x.copy(0, 0, 6), 0);
        x.down(0);
        x.start(0);
        CHECK.same("at least: the base is shown", x.copy(0, 0), "1 60 61 60 60 0");
        CHECK.due("at least: one segment", x.copy(0, 0, 6), 1);
        CHECK.due("at least: of 60", x.segment(0, 0, 0, 0), 60);
        CHECK.due("at least: the base's", x.document(0, 0, 2), 0);
        CHECK.due("at least: by all acts", x.document(0, 0, 0), 60);
    }

    /** "at a CUT those above its LAST are gone" */
    private static void readCut() {
        Cluster x = new Cluster(2, 1, 2);
        x.put(0, 0);
        x.run(4);
        // two ACTS that the other one never gets
        x.put(0, 1);
        x.put(0, 2);
        x.drain(0, 2);
        x.drain(2, 0);
        x.drain(0, 0);
        x.clear(0, 1);
        CHECK.due("cut: three acts", x.copy(0, 0, 2), 3);
        x.down(0);
        x.run(12);
        CHECK.same("cut: the other one is primary", x.view(2, 0), "2 1 2 2");
        x.start(0);
        CHECK.due("cut: three acts yet", x.copy(0, 0, 2), 3);
        x.run(4);
        CHECK.due("cut: one act", x.copy(0, 0, 2), 1);
        CHECK.due("cut: TERM 2", x.copy(0, 0, 0), 2);
        CHECK.same("cut: the record", x.octets(0, 0, 1, 75 + 36, 8), "3 4 0 1 0 2 255 0");
        x.down(0);
        x.start(0);
        CHECK.same("cut: read", x.copy(0, 0), "2 0 1 1 0 0");
        CHECK.due("cut: no such act", x.act(0, 0, 2), -1);
        CHECK.due("cut: no such document", x.document(0, 1, 0), -1);
    }

    /** An ACT whose RECORD is whole though its BLOCK tore is there, with its REQUEST and TERM. */
    private static void readActsThatTore() {
        Cluster x = new Cluster(2, 1, 2);
        x.puts(0, 30);
        x.run(4);
        x.puts(0, 5);
        x.run(4);
        x.down(1);
        x.puts(0, 10);
        x.drain(0, 2);
        x.drain(2, 0);
        x.deliver(0, 0, 9);
        CHECK.due("tore: 44 acts", x.copy(0, 0, 2), 44);
        x.fail(0, 1, 63);
        x.deliver(0, 0);
        x.start(0);
        CHECK.same("tore: 45", x.copy(0, 0), "1 0 45 35 0 0");
        CHECK.due("tore: its request", x.act(0, 0, 45), 44);
        x.clear(0, 0);
        x.drain(0, 2);
        x.drain(2, 0);
        x.puts(0, 16);
        x.drain(0, 2);
        x.drain(2, 0);
        x.drain(0, 0);
        CHECK.same("tore: flushed", x.copy(0, 0), "2 35 61 35 0 2");
        CHECK.same("tore: with its TERM", x.octets(0, 0, 0, 255 + 9 * 12, 12), "1 9 0 45 0 1 0 44 0 35 9 255");
    }

    private static void readDocuments() {
        Cluster x = new Cluster(1, 1, 1);
        x.refresh(0, 0);
        x.puts(0, 59);
        x.run(3);
        x.puts(0, 2);
        x.run(3);
        x.down(0);
        x.start(0);
        CHECK.same("documents: 61 acts", x.copy(0, 0), "1 60 61 60 60 0");
        CHECK.same("documents: of the base", x.document(0, 58, 1) + " " + x.document(0, 0, 1) + " "
                + x.document(0, 1, 1), "59 60 2");
        CHECK.same("documents: behind it", x.document(0, 1, 0) + "", "61");
        CHECK.due("documents: how many", x.copy(0, 0, 8), 59);
    }

    /** A document that was LIVE, but is gone at the BASE that is SHOWN after a START. */
    private static void readIndex() {
        Cluster x = new Cluster(1, 1, 1);
        x.put(0, 0, "cat");
        x.put(0, 1, "dog");
        x.run(3);
        x.refresh(0, 0);
        x.run(3);
        x.drop(0, 0);
        for (int i = 0; i < 58; i++) {
            x.drop(0, 99);
        }
        x.run(3);
        CHECK.due("index: live yet", x.document(0, 0, 2), 0);
        x.down(0);
        x.start(0);
        CHECK.same("index: the base is shown", x.copy(0, 0), "1 60 61 60 60 0");
        CHECK.due("index: gone", x.document(0, 0, 2), -1);
        CHECK.same("index: one segment of one", x.copy(0, 0, 6) + " " + x.segment(0, 0, 0, 0), "1 1");
        CHECK.due("index: the other one", x.document(0, 1, 2), 1);
    }

    /** "THE KEEPER (no HELLO) has the last VIEW of each shard" */
    private static void keeperReads() {
        Cluster x = new Cluster(1, 2, 1);
        for (int i = 0; i < 3; i++) {
            x.down(0);
            x.start(0);
            x.deliver(0, 1);
        }
        x.down(1);
        CHECK.due("keeper: down", x.view(1, 0, 0), -1);
        int onLinks = x.told(2);
        x.start(1);
        CHECK.same("keeper: shard 0", x.view(1, 0), "4 0 1 4");
        CHECK.same("keeper: shard 1", x.view(1, 1), "4 0 1 4");
        CHECK.due("keeper: nothing is sent", x.told(2), onLinks);
    }

    /** "all nodes were HEARD now" */
    private static void keeperHeardAll() {
        Cluster x = new Cluster(2, 1, 2);
        x.down(1);
        x.ticks(7);
        x.down(2);
        x.ticks(3);
        x.start(2);
        x.ticks(7);
        CHECK.same("heard: seven ticks ago", x.view(2, 0), "1 0 3 1");
        x.tick();
        CHECK.same("heard: eight: first 0 is dead, then 1", x.view(2, 0), "2 1 2 2");
    }
}
