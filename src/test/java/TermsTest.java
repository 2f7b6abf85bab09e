/** What the document's terms tell, where chance seldom comes: full and torn disks, segments, words, late writes. */
public final class TermsTest {
    private static final Check CHECK = new Check();
    private static final String FORTY = "abcdefghijklmnopqrstuvwxyz 0123456789 ab";
    private static final int[] KEEPS = {0, 1, 2, 3, 12, 40, 62, 63};

    public static void main(String[] args) {
        tornRecords();
        tornFlush();
        wipedAtStart();
        madeAgain();
        keeperFlush();
        doneInBase();
        refusedWhenNotSure();
        heardAtFirst();
        twentyWait();
        rebased();
        segmentsBecomeOne();
        manyWords();
        wordsOfTexts();
        scores();
        attempts();
        halfAnAnswer();
        contexts();
        deadPrimary();
        formerPrimary();
        joinsWhileIn();
        CHECK.end("TermsTest");
    }

    private static void agree(Pair pair) {
        pair.compareAll();
        CHECK.due(pair.name, pair.wrong, 0);
    }

    /** Any BLOCK of any node tears at any place. */
    private static void tornRecords() {
        for (int node = 0; node <= 3; node++) {
            for (int m = 1; m <= 9; m++) {
                for (int k : KEEPS) {
                    Pair pair = new Pair("node " + node + " tears at block " + m + " with " + k);
                    pair.make(3, 1, 3);
                    pair.fail(node, m, k);
                    for (int i = 0; i < 4; i++) {
                        pair.put(i % 3, i, FORTY);
                        pair.run(2);
                    }
                    pair.refresh(1, 0);
                    pair.drop(2, 1);
                    pair.run(9);
                    pair.down(0);
                    pair.run(12);
                    pair.compareDisks();
                    pair.startAll();
                    pair.compareAll();
                    pair.run(14);
                    pair.startAll();
                    pair.run(8);
                    agree(pair);
                }
            }
        }
    }

    private static void tornFlush() {
        for (int m = 55; m <= 105; m++) {
            for (int k : new int[] {0, 1, 63}) {
                Pair pair = new Pair("a flush tears at block " + m + " with " + k);
                pair.make(1, 1, 1);
                pair.fail(0, m, k);
                for (int i = 0; i < 64 && pair.m.up(0); i++) {
                    pair.put(0, i % 50, FORTY.substring(0, 8 - i % 7));
                    if (i == 20) {
                        pair.refresh(0, 0);
                    }
                    if (i % 5 == 0 || i > 58) {
                        pair.run(2);
                    }
                }
                pair.compareDisks();
                pair.startAll();
                pair.compareAll();
                pair.run(6);
                pair.put(0, 99, "again");
                pair.run(4);
                agree(pair);
            }
        }
    }

    private static void wipedAtStart() {
        SearchCluster x = Check.made(1, 1, 1);
        // BASE and SHOWN have 75 octets, so a RECORD of 12 + 40 ends at 127: the next one has two BLOCKS
        Check.put(x, 0, 0, FORTY);
        x.run(3);
        x.fail(0, 2, 30);
        Check.put(x, 0, 1, FORTY);
        x.run(3);
        CHECK.due("torn: down", x.up(0) ? 1 : 0, 0);
        CHECK.due("torn: its first block is whole", x.disk(0, 0, 103, 63), 1);
        CHECK.due("torn: its second one in part", x.disk(0, 0, 104, 29) != 0 ? 1 : 0, 1);
        CHECK.due("torn: and no more", x.disk(0, 0, 104, 30), 0);
        int before = x.told(5);
        x.fail(0, 1, 10);
        CHECK.due("torn: at the wiping, too", x.start(0) ? 1 : 0, 0);
        CHECK.due("torn: the block behind goes first", x.disk(0, 0, 104, 9), 0);
        CHECK.due("torn: it is torn at 10", x.disk(0, 0, 104, 10) != 0 ? 1 : 0, 1);
        CHECK.due("torn: the other one is as it was", x.disk(0, 0, 103, 63), 1);
        CHECK.due("torn: wiped", x.start(0) ? 1 : 0, 1);
        CHECK.due("torn: one block, then both", x.told(5) - before, 3);
        CHECK.due("torn: nothing behind the records", x.disk(0, 0, 103, 63) + x.disk(0, 0, 104, 10), 0);
        CHECK.due("torn: the first act is there", x.copy(0, 0, 2), 1);
        x.down(0);
        x.start(0);
        CHECK.due("torn: nothing to wipe any more", x.told(5) - before, 3);
    }

    /** Nothing of a cluster is left in the next one. */
    private static void madeAgain() {
        int[][] sizes = {{1, 4, 1}, {5, 4, 3}, {2, 1, 2}, {3, 2, 2}};
        Pair pair = new Pair("made again");
        for (int[] size : sizes) {
            pair.make(size[0], size[1], size[2]);
            pair.compareAll();
            for (int i = 0; i < 26; i++) {
                pair.put(0, i, "num" + i);
                pair.run(i % 3 == 0 ? 1 : 0);
            }
            for (int shard = 0; shard < size[1]; shard++) {
                pair.refresh(0, shard);
            }
            pair.run(4);
            pair.find(0, 10, "num1* -num12");
            pair.fail(0, 900, 5);
            pair.tick();
            pair.run(2);
            pair.down(0);
            pair.run(3);
            pair.compareAll();
        }
        CHECK.due(pair.name, pair.wrong, 0);
    }

    private static void keeperFlush() {
        for (int m = 1; m <= 6; m++) {
            for (int k : new int[] {0, 1, 9, 30, 63}) {
                Pair pair = new Pair("the keeper's flush tears at block " + m + " with " + k);
                pair.make(1, 4, 1);
                pair.down(0);
                // four VIEWS at first, four at each HELLO: the 160th one does not fit
                for (int i = 1; i <= 159; i++) {
                    pair.start(0);
                    pair.down(0);
                    if (i % 60 == 0 || i == 159) {
                        pair.run(1);
                    }
                }
                pair.compareCopy(1, 3, 0);
                pair.fail(1, m, k);
                greet(pair);
                pair.compareDisk(1, 0);
                pair.startAll();
                greet(pair);
                pair.compareDisk(1, 0);
                for (int shard = 0; shard < 4; shard++) {
                    pair.compareCopy(1, shard, 0);
                }
                CHECK.due(pair.name, pair.wrong, 0);
            }
        }
    }

    private static void greet(Pair pair) {
        pair.down(0);
        pair.start(0);
        pair.deliver(0, 1);
    }

    /** A WRITE of what is DONE up to BASE is answered, and not done again. */
    private static void doneInBase() {
        SearchCluster x = Check.made(2, 1, 1);
        int r = Check.put(x, 1, 0, "late");
        x.deliver(1, 2);
        x.deliver(2, 1);
        x.deliver(1, 0);
        CHECK.due("late: DONE is lost", x.lose(0, 1), 5);
        for (int i = 0; i < 62; i++) {
            x.drop(0, 1 + i);
            if (i % 20 == 0) {
                x.run(1);
            }
        }
        x.run(3);
        CHECK.due("late: the base is beyond it", x.copy(0, 0, 1), 60);
        CHECK.due("late: it is open", x.request(r, 0), 0);
        x.run(5);
        CHECK.due("late: tried again", x.request(r, 3), 1);
        CHECK.due("late: done", x.request(r, 0), 1);
        CHECK.due("late: once", x.copy(0, 0, 2), 63);
    }

    private static void refusedWhenNotSure() {
        SearchCluster x = Check.made(2, 1, 2);
        x.down(1);
        for (int i = 0; i < 31; i++) {
            x.drop(0, i);
        }
        x.run(3);
        CHECK.due("not sure: 30 acts and no more", x.copy(0, 0, 2), 30);
        CHECK.due("not sure: none of them", x.copy(0, 0, 3), 0);
        x.run(30);
        CHECK.due("not sure: till the other one is out", x.copy(0, 0, 3), 31);
        CHECK.due("not sure: all are done", x.request(30, 0), 1);
    }

    /** One that was never heard counts as heard at tick 0. */
    private static void heardAtFirst() {
        SearchCluster x = Check.made(2, 1, 2);
        x.down(1);
        x.drop(0, 0);
        x.deliver(0, 2);
        x.deliver(2, 0);
        x.deliver(0, 0);
        for (int i = 0; i < 8; i++) {
            x.tick();
        }
        CHECK.due("heard: in at tick 8", x.other(0, 0, 1, 0), 3);
        x.tick();
        CHECK.due("heard: leaving at tick 9", x.other(0, 0, 1, 0), 4);
        CHECK.due("heard: FAIL", x.message(0, 2, x.link(0, 2) - 1, 0), 12);
        CHECK.due("heard: with its count", x.message(0, 2, x.link(0, 2) - 1, 4), 0);
    }

    private static void twentyWait() {
        SearchCluster x = Check.made(2, 1, 2);
        x.drop(0, 0);
        x.run(5);
        x.down(1);
        for (int i = 0; i < 21; i++) {
            x.refresh(0, 0);
        }
        x.deliver(0, 2);
        for (int i = 0; i < 20; i++) {
            x.deliver(0, 2);
        }
        while (x.link(2, 0) > 0) {
            x.deliver(2, 0);
        }
        for (int i = 0; i < 21; i++) {
            CHECK.due("wait: SHOW", x.deliver(0, 0), 17);
        }
        CHECK.due("wait: one answer", x.link(0, 0), 1);
        CHECK.due("wait: NO", x.message(0, 0, 0, 0), 4);
        CHECK.due("wait: to the last one", x.message(0, 0, 0, 1), 21);
        x.run(30);
        for (int r = 1; r <= 21; r++) {
            CHECK.due("wait: done when the other one is out", x.request(r, 0), 1);
        }
    }

    /** A node comes back when BASE is beyond what it has. */
    private static void rebased() {
        Pair pair = new Pair("a node that is far behind");
        pair.make(2, 1, 2);
        pair.put(0, 7, "first");
        pair.run(4);
        pair.down(1);
        for (int i = 0; i < 90; i++) {
            pair.put(0, i % 30, "text " + i);
            pair.run(1);
        }
        pair.refresh(0, 0);
        pair.run(4);
        pair.start(1);
        pair.run(1);
        pair.compareAll();
        pair.run(8);
        agree(pair);
        CHECK.due("rebased: all of it", pair.x().copy(1, 0, 2), 91);
        CHECK.due("rebased: shown", pair.x().copy(1, 0, 4), 91);
        CHECK.due("rebased: it counts again", pair.x().view(2, 0, 2), 3);
    }

    private static void segmentsBecomeOne() {
        SearchCluster x = Check.made(1, 1, 1);
        int[] counts = {1, 2, 3, 4, 1, 2};
        for (int d = 0; d < 6; d++) {
            show(x, d);
            CHECK.due("segments behind document " + d, x.copy(0, 0, 6), counts[d]);
        }
        CHECK.due("segments: five in one", x.segment(0, 0, 0, 0), 5);
        show(x, 6);
        show(x, 7);
        x.drop(0, 6);
        x.run(2);
        x.refresh(0, 0);
        x.run(2);
        CHECK.due("segments: one without live ones is gone", x.copy(0, 0, 6), 3);
        show(x, 8);
        show(x, 7);
        CHECK.due("segments: one that dies counts as the fourth, so all become one", x.copy(0, 0, 6), 1);
        CHECK.due("segments: all that are there", x.segment(0, 0, 0, 0), 8);
        x.down(0);
        x.start(0);
        CHECK.due("segments: one when it was read", x.copy(0, 0, 6), 1);
    }

    private static void show(SearchCluster x, int document) {
        Check.put(x, 0, document, "word" + document);
        x.run(2);
        x.refresh(0, 0);
        x.run(2);
    }

    /** Numbers of one octet and of two. */
    private static void manyWords() {
        for (int words = 126; words <= 130; words++) {
            Pair pair = new Pair(words + " words");
            pair.make(1, 1, 1);
            StringBuilder text = new StringBuilder();
            int document = 0;
            for (int i = 0; i < words; i++) {
                text.append((char) ('b' + i / 10)).append(i % 10);
                if (text.length() > 36 || i == words - 1) {
                    pair.put(0, document, text.toString());
                    document += 9;
                    text.setLength(0);
                } else {
                    text.append('-');
                }
            }
            pair.run(4);
            pair.refresh(0, 0);
            pair.run(4);
            agree(pair);
        }
    }

    private static void wordsOfTexts() {
        String[][] pairs = {{"Flies", "fly"}, {"ties", "tie"}, {"singing", "sing"}, {"bring", "bring"},
            {"walked", "walk"}, {"used", "used"}, {"shred", "shr"}, {"cats", "cat"}, {"gas", "gas"}, {"boss", "boss"},
            {"4cats", "4cats"}, {"cats4", "cats4"}, {"abcdefghijings", "abcdefghijin"},
            {"abcdefghiing", "abcdefghi"}, {"abcdefghijkling", "abcdefghijkl"}};
        for (String[] p : pairs) {
            SearchCluster x = Check.made(1, 1, 1);
            Check.put(x, 0, 0, p[0]);
            x.run(2);
            x.refresh(0, 0);
            x.run(2);
            // 1 document, its number, LENGTH, 1 WORD, 0 alike, its size
            CHECK.due(p[0] + ": its size", x.octet(0, 0, 0, 5), p[1].length());
            for (int i = 0; i < p[1].length(); i++) {
                CHECK.due(p[0] + ": octet " + i, x.octet(0, 0, 0, 6 + i), p[1].charAt(i));
            }
        }
        for (String none : new String[] {"a", "An", "OF", "the", "thes", "theing", ".,;", ""}) {
            SearchCluster x = Check.made(1, 1, 1);
            Check.put(x, 0, 0, none);
            x.run(2);
            x.refresh(0, 0);
            x.run(2);
            CHECK.due(none + " is no word", x.segment(0, 0, 0, 2), 4);
            CHECK.due(none + " has no length", x.octet(0, 0, 0, 2), 0);
        }
    }

    private static void scores() {
        SearchCluster x = Check.made(1, 1, 1);
        Check.put(x, 0, 0, "cat");
        x.run(2);
        x.refresh(0, 0);
        x.run(2);
        // D, T, F 1: (LOG(4) - LOG(3)) * 2200 / (1000 + 300 + 900), LOG(4) 128, LOG(3) 96
        CHECK.due("score: one word alone", scoreOf(x, "cat"), 32);
        Check.put(x, 0, 0, "run run the run");
        x.run(2);
        x.refresh(0, 0);
        x.run(2);
        // LENGTH, T 3; two words of RARE 32 that stand together once: 64 * 2200 / (1000 + 300 + 900)
        CHECK.due("score: two words", scoreOf(x, "\"run runs\""), 64);
        // the row between them is none: 64 * 2200 / 2200 at place 1, at place 0 there is none
        CHECK.due("score: a place between", scoreOf(x, "\"run a run\""), 64);
        // h 3: 32 * 2200 * 3 / (3000 + 300 + 900)
        CHECK.due("score: three times", scoreOf(x, "run"), 50);
        CHECK.due("score: with *", scoreOf(x, "r*"), 64);
        CHECK.due("score: the sum", scoreOf(x, "r* +run -cat"), 114);
        // the first row's place is 0 or more: runs at 1 and 3
        CHECK.due("score: a first row that is none", scoreOf(x, "\"the run\""), 32 * 2200 * 2 / (2000 + 300 + 900));
        CHECK.due("score: not with -", scoreOf(x, "run -r*"), -1);
        CHECK.due("score: not without +", scoreOf(x, "run +cat"), -1);
        CHECK.due("score: - alone finds nothing", scoreOf(x, "-cat"), -1);
        CHECK.due("score: the is left out", scoreOf(x, "the"), -1);
        CHECK.due("score: +the, too", scoreOf(x, "+the run"), 50);
        CHECK.due("score: the* is not", scoreOf(x, "run +the*"), -1);
    }

    private static int scoreOf(SearchCluster x, String question) {
        int r = Check.find(x, 0, 5, question);
        x.run(5);
        CHECK.due(question + " is done", x.request(r, 0), 1);
        return x.request(r, 5) == 0 ? -1 : x.hit(r, 0, 1);
    }

    /** A FIND asks other COPIES at another attempt; what is of an attempt before is nothing. */
    private static void attempts() {
        SearchCluster x = Check.made(3, 1, 3);
        int r = Check.find(x, 0, 1, "cat");
        x.deliver(0, 3);
        x.deliver(3, 0);
        CHECK.due("attempt 0: node 0 of three", x.link(0, 0), 1);
        x.deliver(0, 0);
        CHECK.due("attempt 0: STATS", x.message(0, 0, 0, 0), 20);
        for (int i = 0; i < 8; i++) {
            for (int node = 0; node < 3; node++) {
                while (x.link(node, 3) > 0) {
                    x.deliver(node, 3);
                }
            }
            x.tick();
        }
        CHECK.due("attempt 1", x.request(r, 3), 1);
        x.deliver(0, 0);
        CHECK.due("attempt 1: the STATS of before are nothing", x.link(0, 0), 0);
        while (x.link(0, 3) > 0) {
            x.deliver(0, 3);
        }
        x.deliver(3, 0);
        CHECK.due("attempt 1: node 1", x.message(0, 1, 0, 0), 19);
        CHECK.due("attempt 1: told", x.message(0, 1, 0, 2), 1);
        x.down(1);
        x.start(1);
        x.deliver(0, 1);
        CHECK.due("attempt 1: a node that knows no view answers NO", x.message(1, 0, 0, 0), 4);
        x.deliver(1, 0);
        x.run(14);
        CHECK.due("attempt 2: done", x.request(r, 0), 1);
        CHECK.due("attempt 2: it was the one", x.request(r, 3), 2);
    }

    /** What one shard answered at an attempt before does not count twice. */
    private static void halfAnAnswer() {
        SearchCluster x = Check.made(2, 2, 1);
        Check.put(x, 0, 0, "cat");
        Check.put(x, 0, 1, "cat cat");
        x.run(3);
        x.refresh(0, 0);
        x.refresh(0, 1);
        x.run(4);
        int r = Check.find(x, 1, 10, "cat");
        x.run(4);
        CHECK.due("half: both answer", x.message(0, 1, 0, 0) * 100 + x.message(1, 1, 0, 0), 2222);
        x.lose(0, 1);
        x.run(3);
        CHECK.due("half: it is open", x.request(r, 0), 0);
        CHECK.due("half: and tells nothing", x.request(r, 5), 0);
        x.run(12);
        CHECK.due("half: done at attempt 1", x.request(r, 0) * 10 + x.request(r, 3), 11);
        CHECK.due("half: two documents", x.request(r, 5), 2);
        CHECK.due("half: the one with two", x.hit(r, 0, 0), 1);
        CHECK.due("half: the other one", x.hit(r, 1, 0), 0);
    }

    private static void contexts() {
        SearchCluster x = Check.made(1, 1, 1);
        for (int i = 0; i < 9; i++) {
            Check.find(x, 0, 1, "cat");
        }
        for (int i = 0; i < 9; i++) {
            x.deliver(0, 1);
        }
        for (int i = 0; i < 9; i++) {
            x.deliver(1, 0);
        }
        for (int i = 0; i < 9; i++) {
            x.deliver(0, 0);
        }
        CHECK.due("contexts: eight", x.told(6), 8);
        for (int i = 0; i < 8; i++) {
            CHECK.due("contexts: the least that is free", x.message(0, 0, i, 4), i);
        }
        CHECK.due("contexts: the ninth gets NO", x.message(0, 0, 8, 0), 4);
        x.run(3);
        CHECK.due("contexts: gone when scored", x.told(6), 0);
        CHECK.due("contexts: the eighth is done", x.request(7, 0), 1);
        CHECK.due("contexts: the ninth is not", x.request(8, 0), 0);
    }

    /** ADD of a primary that counts as DEAD: whoever is in the MASK then and is heard becomes primary. */
    private static void deadPrimary() {
        Pair pair = new Pair("a dead primary adds");
        pair.make(2, 1, 2);
        pair.down(1);
        pair.run(10);
        pair.start(1);
        for (int i = 0; i < 12; i++) {
            for (int from = 0; from <= 2; from++) {
                for (int to = 0; to <= 2; to++) {
                    for (int left = pair.m.link(from, to); left > 0; left--) {
                        if (from == 0 && pair.m.message(from, to, 0, 0) == 16) {
                            pair.lose(from, to);
                        } else if (from != 0 || to != 2) {
                            pair.deliver(from, to);
                        }
                    }
                }
            }
            pair.tick();
        }
        CHECK.due("dead: the keeper has not got the ADD", pair.x().view(2, 0, 2), 1);
        while (pair.m.link(0, 2) > 0) {
            if (pair.m.message(0, 2, 0, 0) == 16) {
                pair.lose(0, 2);
            } else {
                pair.deliver(0, 2);
            }
        }
        CHECK.due("dead: now it has", pair.x().view(2, 0, 2), 3);
        CHECK.due("dead: its primary", pair.x().view(2, 0, 1), 0);
        for (int i = 0; i < 4 && pair.m.link(1, 2) == 0; i++) {
            pair.tick();
        }
        CHECK.due("dead: a BEAT", pair.deliver(1, 2), 16);
        CHECK.due("dead: the other one is primary", pair.x().view(2, 0, 1), 1);
        CHECK.due("dead: alone", pair.x().view(2, 0, 2), 2);
        pair.run(20);
        agree(pair);
    }

    /** ADD and FAIL of who is not primary any more are nothing to the keeper. */
    private static void formerPrimary() {
        SearchCluster x = Check.made(3, 1, 3);
        x.down(2);
        x.run(10);
        CHECK.due("former: 2 is out", x.view(3, 0, 2), 3);
        x.start(2);
        while (x.link(0, 3) == 0 || x.message(0, 3, x.link(0, 3) - 1, 0) != 11) {
            for (int lane = 0; lane < 16; lane++) {
                if (lane != 3) {
                    x.deliver(lane / 4, lane % 4);
                }
            }
        }
        CHECK.due("former: 2 is tracked", x.other(0, 0, 2, 0), 2);
        x.down(0);
        for (int i = 0; i < 9; i++) {
            x.tick();
            while (x.link(1, 3) > 0) {
                x.deliver(1, 3);
            }
        }
        CHECK.due("former: 1 is primary", x.view(3, 0, 1), 1);
        int before = x.link(3, 0);
        while (x.link(0, 3) > 0) {
            x.deliver(0, 3);
        }
        CHECK.due("former: its ADD is not answered, its BEATS are", x.link(3, 0) - before, 1);
        CHECK.due("former: 2 is not in", x.view(3, 0, 2) & 4, 0);
    }

    /** A JOIN of a node that is IN for its primary gives it time again. */
    private static void joinsWhileIn() {
        Pair pair = new Pair("joins while in");
        pair.make(2, 1, 2);
        pair.down(1);
        for (int i = 0; i < 6; i++) {
            pair.tick();
            pair.deliver(0, 2);
        }
        pair.put(0, 0, "x");
        pair.deliver(0, 2);
        while (pair.m.link(2, 0) > 0) {
            pair.deliver(2, 0);
        }
        pair.deliver(0, 0);
        for (int i = 0; i < 2; i++) {
            pair.tick();
            pair.deliver(0, 2);
        }
        CHECK.due("joins: the keeper left it out", pair.x().view(2, 0, 2), 1);
        pair.start(1);
        while (pair.m.link(1, 2) > 0) {
            pair.deliver(1, 2);
        }
        while (pair.m.link(2, 1) > 0) {
            pair.deliver(2, 1);
        }
        CHECK.due("joins: it asks", pair.m.message(1, 0, pair.m.link(1, 0) - 1, 0), 10);
        for (int i = 0; i < 5; i++) {
            pair.tick();
            pair.deliver(0, 2);
        }
        CHECK.due("joins: it is in for the primary", pair.x().other(0, 0, 1, 0), 3);
        while (pair.m.link(1, 0) > 0) {
            pair.deliver(1, 0);
        }
        for (int i = 0; i < 8; i++) {
            pair.tick();
            pair.deliver(0, 2);
            CHECK.due("joins: still in", pair.x().other(0, 0, 1, 0), 3);
        }
        pair.tick();
        CHECK.due("joins: leaving at the ninth tick", pair.x().other(0, 0, 1, 0), 4);
        agree(pair);
    }
}
