/**
 * What the document tells, but no object comes to in the 512 calls that it is promised for: a COPY's HALF that is full,
 * and the GENERATION behind 250. The class holds to it beyond them, and is asked here for that.
 */
public final class BeyondTest {
    private static final Check CHECK = new Check();
    private static final String FORTY = "abcdefghijklmnopqrstuvwxyz 0123456789 ab";

    public static void main(String[] args) {
        fullHalf();
        showsTheBaseOfItsFlush();
        tornAtTheEnd();
        generationsGoRound();
        CHECK.due("runs by chance that disagree", RandomRunsTest.runs(1000, 34, true), 0);
        CHECK.end("BeyondTest");
    }

    private static void agree(Pair pair) {
        pair.compareAll();
        CHECK.due(pair.name, pair.wrong, 0);
    }

    /** RECORDS of every kind at every end of a HALF. */
    private static void fullHalf() {
        for (int left = 0; left <= 14; left++) {
            for (int kind = 0; kind < 4; kind++) {
                Pair pair = new Pair(left + " octets are left for kind " + kind, true);
                pair.make(2, 1, 2);
                fillUp(pair, 0, left);
                CHECK.due(pair.name + " at first", pair.m.room(0, 0), left);
                if (kind == 0) {
                    pair.refresh(0, 0);
                } else if (kind == 1) {
                    pair.drop(0, 5);
                } else if (kind == 2) {
                    pair.down(0);
                    pair.start(0);
                } else {
                    pair.put(0, 5, "ab");
                    pair.down(1);
                    pair.start(1);
                }
                pair.run(3);
                pair.compareDisks();
                pair.run(12);
                agree(pair);
            }
        }
    }

    /** Documents and ACTS of the first shard fill a node's HALF up to some octets. */
    private static void fillUp(Pair pair, int node, int left) {
        for (int i = 0; i < 300; i++) {
            int room = pair.m.room(node, 0);
            if (room == left) {
                return;
            }
            int size = Math.min(40, room - left - 12);
            if (room - left - 12 - size > 0 && room - left - 12 - size < 12) {
                size -= 12;
            }
            pair.put(0, i % 100, FORTY.substring(0, size));
            pair.run(2);
        }
    }

    /** The last two BLOCKS of a HALF hold a RECORD that tears. */
    private static void tornAtTheEnd() {
        for (int left = 52; left <= 116; left += 4) {
            for (int m = 1; m <= 2; m++) {
                for (int k : new int[] {0, 1, 20, 50}) {
                    Pair pair = new Pair(left + " octets are left, block " + m + " tears with " + k, true);
                    pair.make(1, 1, 1);
                    fillUp(pair, 0, left);
                    CHECK.due(pair.name + " at first", pair.m.room(0, 0), left);
                    pair.fail(0, m, k);
                    pair.put(0, 3, FORTY);
                    pair.run(3);
                    pair.compareDisks();
                    pair.startAll();
                    pair.compareAll();
                    pair.run(6);
                    pair.put(0, 4, FORTY);
                    pair.run(6);
                    agree(pair);
                }
            }
        }
    }

    /** "It SHOWS v (or BASE, if that is more; also if a FLUSH for this RECORD makes it so)" */
    private static void showsTheBaseOfItsFlush() {
        for (int left = 4; left <= 5; left++) {
            Pair pair = new Pair("SHOWN has " + left + " octets", true);
            pair.make(2, 1, 2);
            fillUp(pair, 1, left + 24);
            pair.run(2);
            int sure = pair.x().copy(0, 0, 3);
            pair.refresh(0, 0);
            drain(pair);
            CHECK.due(pair.name + ": SHOWTO is lost", pair.lose(0, 1), 18);
            // two RECORDS of 12 octets: when the second comes, the first is SURE
            for (int i = 0; i < 2; i++) {
                pair.drop(0, 5);
                drain(pair);
                pair.deliver(0, 1);
                pair.deliver(1, 0);
            }
            CHECK.due(pair.name + ": room", pair.m.room(1, 0), left);
            CHECK.due(pair.name + ": sure", pair.x().copy(1, 0, 3), sure + 1);
            pair.tick();
            pair.tick();
            pair.tick();
            CHECK.due(pair.name + ": SHOWTO again", pair.deliver(0, 1), 18);
            CHECK.due(pair.name + ": the base", pair.x().copy(1, 0, 1), left < 5 ? sure + 1 : 120);
            CHECK.due(pair.name + ": what it shows", pair.x().copy(1, 0, 4), left < 5 ? sure + 1 : sure);
            agree(pair);
        }
    }

    /** All that node 0 and THE KEEPER, node 2, have for one another, and what node 0 SENDS to itself then. */
    private static void drain(Pair pair) {
        int[][] lanes = {{0, 2}, {2, 0}, {0, 0}};
        for (int[] lane : lanes) {
            for (int left = pair.m.link(lane[0], lane[1]); left > 0; left--) {
                pair.deliver(lane[0], lane[1]);
            }
        }
    }

    /** "1 .. 250; behind 250 comes 1", and that one COUNTS, for it comes behind the other one's. */
    private static void generationsGoRound() {
        SearchCluster x = Check.made(1, 4, 1);
        int generation = 1;
        int flushes = 0;
        for (int i = 0; i < 42000; i++) {
            x.down(0);
            x.start(0);
            x.deliver(0, 1);
            int next = generation == 250 ? 1 : generation + 1;
            if (x.disk(1, 0, generation % 2, 0) != generation) {
                CHECK.due("behind " + generation + " its head is another", x.disk(1, 0, generation % 2, 0), generation);
            }
            if (x.disk(1, 0, next % 2, 0) == next) {
                flushes++;
                generation = next;
                x.down(1);
                x.start(1);
                CHECK.due("generation " + generation, x.view(1, 2, 0), i + 2);
            }
        }
        // four VIEWS at each HELLO, 640 in a HALF: the first FLUSH at the 160th, then one at each 159th
        CHECK.due("how many there were", flushes, 1 + (42000 - 160) / 159);
        CHECK.due("it went round", generation, 15);
    }
}
