/** The edges that the document's terms 5, TICKS AND THE KEEPER, and 6, REQUESTS, name: each sentence by itself. */
public final class TickEdgesTest {
    private static final Check CHECK = new Check();

    public static void main(String[] args) {
        replAgain();
        replAtOnce();
        fourReplsAtMost();
        heardWhileNotBehind();
        behindInShown();
        replAndShowTo();
        syncAndNoMore();
        syncBelowBase();
        joiningIsNeverLeft();
        leavingIsToldAgain();
        trackedIsAddedAgain();
        trackedIsLeft();
        joinAgain();
        beatsAtEvenTicks();
        contextsGrowOld();
        deadAtEight();
        deadByNumbers();
        deadFollowersFirst();
        deadOneAlone();
        deadPrimaryAdds();
        promotesTheLeast();
        helloOfAFollower();
        helloOfThePrimary();
        helloOfOneWithoutCopy();
        beatOfOldVersion();
        beatOfNoTerm();
        beatOfOneThatWasDead();
        keeperIsDown();
        triedAtEight();
        failedAtForty();
        closedOnesStayClosed();
        mapOfAnotherAttempt();
        mapOfOneThatFailed();
        doneOfOneThatFailed();
        doneOfAnyAttempt();
        noOfAWrite();
        noOfTheNextAttempt();
        copiesByTurns();
        noEndsAnAttempt();
        noOfAnotherAttempt();
        topOfAnotherAttempt();
        statsOfBothAttempts();
        topsOfBothAttempts();
        CHECK.end("TickEdgesTest");
    }

    /** Two COPIES; ACTS of node 0 of which node 1 gets nothing. THE KEEPER is node 2. */
    private static Cluster withActs(int many) {
        Cluster x = new Cluster(2, 1, 2);
        x.puts(0, many);
        x.deliver(0, 2, many);
        x.deliver(2, 0, many);
        x.deliver(0, 0, many);
        x.clear(0, 1);
        return x;
    }

    /** Two COPIES; node 1 was left out, is back, and its JOIN is on its LINK. */
    private static Cluster withOneOutside(int acts) {
        Cluster x = new Cluster(2, 1, 2);
        x.down(1);
        x.run(10);
        x.puts(0, acts);
        x.run(acts == 0 ? 0 : 4);
        x.start(1);
        x.drain(1, 2);
        x.clear(2, 0);
        x.drain(2, 1);
        return x;
    }

    // ---- 5 TICKS: a PRIMARY

    /** "else, if NOW - SENT is 3 or more: .. REPL of the ACTS behind HAS .. SENT is NOW" */
    private static void replAgain() {
        Cluster x = withActs(1);
        x.ticks(2);
        CHECK.same("again: not at the second tick", x.kinds(0, 1), "");
        x.tick();
        CHECK.same("again: at the third", x.kinds(0, 1), "6");
        CHECK.same("again: s t q r u", x.message(0, 1, 0), "6 0 1 1 0 0");
        x.ticks(2);
        CHECK.same("again: not at the fifth", x.kinds(0, 1), "6");
        x.tick();
        CHECK.same("again: at the sixth", x.kinds(0, 1), "6 6");
    }

    private static void replAtOnce() {
        Cluster x = new Cluster(2, 1, 2);
        x.run(5);
        x.puts(0, 1);
        x.drain(0, 2);
        x.drain(2, 0);
        x.drain(0, 0);
        CHECK.same("at once: by WRITE", x.kinds(0, 1), "6");
        x.tick();
        CHECK.same("at once: nothing was sent for 3 ticks", x.kinds(0, 1), "6 6");
    }

    /** "REPL of the ACTS behind HAS, four at most" */
    private static void fourReplsAtMost() {
        for (int acts = 3; acts <= 6; acts++) {
            Cluster x = withActs(acts);
            x.ticks(3);
            CHECK.due("four: of " + acts, x.link(0, 1), Math.min(acts, 4));
            CHECK.due("four: from the first on", x.message(0, 1, 0, 3), 1);
            x.drain(0, 1);
            x.drain(1, 0);
            x.ticks(3);
            CHECK.due("four: then the others", x.link(0, 1), Math.max(0, acts - 4));
        }
    }

    /** "if it is not BEHIND: HEARD is NOW"; "if STATE is 2 or 3 and NOW - HEARD 9 or more: STATE 4, FAIL" */
    private static void heardWhileNotBehind() {
        Cluster x = new Cluster(2, 1, 2);
        x.ticksHeard(5, 2, 0, 1);
        x.puts(0, 1);
        x.ask(0, 2, 0);
        x.ticksHeard(8, 2, 0, 1);
        CHECK.due("heard: eight ticks", x.other(0, 0, 1, 0), 3);
        x.clear(0, 2);
        x.tick();
        CHECK.due("heard: nine", x.other(0, 0, 1, 0), 4);
        CHECK.same("heard: FAIL s t x e", x.message(0, 2, 0), "12 0 1 1 0 0");
    }

    /** BEHIND: ".. or SAW is below SHOWN" */
    private static void behindInShown() {
        Cluster x = new Cluster(2, 1, 2);
        x.puts(0, 1);
        x.run(4);
        x.refresh(0, 0);
        x.drain(0, 2);
        x.drain(2, 0);
        x.drain(0, 0);
        CHECK.same("shown: it has all, but saw none", x.other(0, 0, 1), "3 1 0 0");
        x.clear(0, 1);
        x.tick();
        CHECK.same("shown: SHOWTO alone", x.kinds(0, 1), "18");
        x.ticksHeard(7, 2, 0, 1);
        CHECK.due("shown: eight ticks", x.other(0, 0, 1, 0), 3);
        x.tick();
        CHECK.due("shown: nine", x.other(0, 0, 1, 0), 4);
    }

    /** "and behind that, in both cases, if SAW is below SHOWN, SHOWTO" */
    private static void replAndShowTo() {
        Cluster x = new Cluster(2, 1, 2);
        x.puts(0, 1);
        x.run(4);
        x.refresh(0, 0);
        x.puts(0, 1);
        x.drain(0, 2);
        x.drain(2, 0);
        x.drain(0, 0);
        x.clear(0, 1);
        x.tick();
        CHECK.same("both: REPL, SHOWTO", x.kinds(0, 1), "6 18");
        CHECK.same("both: s t v", x.newest(0, 1), "18 0 1 1 0 0");
        x.ticks(2);
        CHECK.same("both: SENT was NOW", x.kinds(0, 1), "6 18");
        x.tick();
        CHECK.same("both: at the third tick", x.kinds(0, 1), "6 18 6 18");
    }

    /** "when HAS is NONE: SYNC with it, and no more" */
    private static void syncAndNoMore() {
        Cluster x = withOneOutside(1);
        x.refresh(0, 0);
        x.drain(0, 2);
        x.drain(2, 0);
        x.drain(0, 0);
        CHECK.due("no more: shown", x.copy(0, 0, 4), 1);
        x.deliver(1, 0);
        CHECK.same("no more: SYNC at JOIN", x.kinds(0, 1), "8");
        x.ticks(2);
        CHECK.same("no more: SENT was NOW", x.kinds(0, 1), "8");
        x.tick();
        CHECK.same("no more: SYNC alone", x.kinds(0, 1), "8 8");
        x.ticks(3);
        CHECK.same("no more: each third tick", x.kinds(0, 1), "8 8 8");
    }

    /** "(when HAS is below BASE: SYNC with it instead of these)" */
    private static void syncBelowBase() {
        Cluster x = withOneOutside(1);
        x.deliver(1, 0);
        x.drain(0, 1);
        // before its ACK comes, a second ACT: it joins yet, and is not waited for
        x.puts(0, 1);
        x.drain(0, 2);
        x.drain(2, 0);
        x.drain(0, 0);
        x.deliver(1, 0);
        CHECK.same("base: it joins and has 1", x.other(0, 0, 1), "1 1 0 1");
        x.clear(0, 1);
        x.puts(0, 57);
        x.drain(0, 2);
        x.drain(2, 0);
        x.drain(0, 0);
        x.puts(0, 2);
        x.drain(0, 2);
        x.drain(2, 0);
        x.drain(0, 0);
        CHECK.same("base: 61 acts", x.copy(0, 0), "1 60 61 61 0 2");
        x.clear(0, 1);
        x.ticks(3);
        CHECK.same("base: SYNC", x.kinds(0, 1), "8");
        x.lose(0, 1);
        x.refresh(0, 0);
        x.clear(1, 2);
        x.drain(0, 2);
        x.drain(2, 0);
        x.drain(0, 0);
        CHECK.same("base: SHOWTO by SHOW", x.kinds(0, 1), "18");
        x.ticks(3);
        CHECK.same("base: SYNC, SHOWTO", x.kinds(0, 1), "18 8 18");
    }

    /** STATE 1 is not left, however long it is BEHIND. */
    private static void joiningIsNeverLeft() {
        Cluster x = withOneOutside(1);
        x.deliver(1, 0);
        for (int i = 0; i < 20; i++) {
            x.tick();
            x.clear(0, 1);
        }
        CHECK.same("joining: STATE 1", x.other(0, 0, 1), "1 -1 0 1");
        CHECK.due("joining: what is done needs no other", x.copy(0, 0, 3), 1);
    }

    /** "STATE 4: if NOW - HEARD is 9 or more: FAIL .. HEARD is NOW (else nothing)" */
    private static void leavingIsToldAgain() {
        Cluster x = withActs(1);
        x.ticks(9);
        CHECK.due("leaving: STATE 4", x.other(0, 0, 1, 0), 4);
        x.clear(0, 1);
        x.clear(0, 2);
        x.ticks(8);
        CHECK.same("leaving: neither REPL nor FAIL", x.kinds(0, 1) + "/" + x.kinds(0, 2), "/16 16 16 16 1");
        x.clear(0, 2);
        x.tick();
        CHECK.same("leaving: FAIL at the ninth tick", x.kinds(0, 2), "12 16");
        CHECK.same("leaving: no REPL", x.kinds(0, 1), "");
        x.ticks(8);
        CHECK.due("leaving: not before the next ninth", x.message(0, 2, x.link(0, 2) - 1, 0), 16);
        x.clear(0, 2);
        x.tick();
        CHECK.same("leaving: FAIL again", x.message(0, 2, 0), "12 0 1 1 0 0");
    }

    /** "if STATE is 2 and NOW - SENT 3 or more: ADD, SENT is NOW" */
    private static void trackedIsAddedAgain() {
        Cluster x = withOneOutside(0);
        x.deliver(1, 0);
        x.drain(0, 1);
        x.clear(0, 2);
        x.deliver(1, 0);
        CHECK.same("tracked: ADD", x.kinds(0, 2), "11");
        x.ticks(2);
        CHECK.same("tracked: SENT was NOW", x.kinds(0, 2), "11 16");
        x.tick();
        CHECK.same("tracked: at the third tick", x.kinds(0, 2), "11 16 11");
        x.ticks(3);
        CHECK.same("tracked: at the sixth", x.kinds(0, 2), "11 16 11 16 11 16");
        CHECK.same("tracked: s t x v", x.message(0, 2, 4), "11 0 1 1 2 0");
        x.ticks(12);
        CHECK.due("tracked: it is not left", x.other(0, 0, 1, 0), 2);
    }

    private static void trackedIsLeft() {
        Cluster x = withOneOutside(0);
        x.deliver(1, 0);
        x.drain(0, 1);
        x.deliver(1, 0);
        CHECK.due("left: tracked", x.other(0, 0, 1, 0), 2);
        x.clear(0, 2);
        x.puts(0, 1);
        x.drain(0, 2);
        x.drain(2, 0);
        x.drain(0, 0);
        for (int i = 0; i < 8; i++) {
            x.tick();
            x.clear(0, 1);
        }
        CHECK.due("left: eight ticks", x.other(0, 0, 1, 0), 2);
        x.clear(0, 2);
        x.tick();
        CHECK.due("left: nine", x.other(0, 0, 1, 0), 4);
        CHECK.same("left: FAIL with its COUNT", x.message(0, 2, 0), "12 0 1 1 1 0");
    }

    // ---- 5 TICKS: others

    /** "An OUTSIDE COPY whose VIEW has a VERSION above 0: if NOW - SENT is 3 or more: JOIN" */
    private static void joinAgain() {
        Cluster x = withOneOutside(2);
        CHECK.same("join: at CONFIG", x.kinds(1, 0), "10");
        x.ticks(2);
        CHECK.same("join: SENT was NOW", x.kinds(1, 0), "10");
        x.tick();
        CHECK.same("join: at the third tick", x.kinds(1, 0), "10 10");
        CHECK.same("join: s l", x.newest(1, 0), "10 0 0 0 0 0");
        x.ticks(3);
        CHECK.same("join: at the sixth", x.kinds(1, 0), "10 10 10");
    }

    /** "if NOW is even: BEAT to THE KEEPER" */
    private static void beatsAtEvenTicks() {
        Cluster x = new Cluster(2, 1, 1);
        x.tick();
        CHECK.due("beats: none at 1", x.told(2), 0);
        x.tick();
        CHECK.same("beats: at 2", x.kinds(0, 2) + " " + x.kinds(1, 2), "16 16");
        CHECK.same("beats: no numbers", x.message(1, 2, 0), "16 0 0 0 0 0");
        x.tick();
        CHECK.due("beats: none at 3", x.told(2), 2);
        x.down(1);
        x.tick();
        CHECK.due("beats: none of one that is down", x.link(1, 2), 1);
        CHECK.due("beats: the keeper sends none", x.link(2, 2), 0);
    }

    /** "CONTEXTS (see 7) that are 12 TICKS old are gone" */
    private static void contextsGrowOld() {
        Cluster x = new Cluster(1, 1, 1);
        x.find(0, 1, "cat");
        x.ask(0, 1, 0);
        CHECK.due("old: a context", x.told(6), 1);
        x.ticks(11);
        CHECK.due("old: 11 ticks", x.told(6), 1);
        x.tick();
        CHECK.due("old: 12", x.told(6), 0);
    }

    // ---- 5 THE KEEPER

    /** "each node x .. that is ALIVE and was HEARD 8 TICKS ago or more is DEAD" */
    private static void deadAtEight() {
        Cluster x = new Cluster(2, 1, 2);
        x.ticksHeard(2, 2, 0, 1);
        x.ticksHeard(7, 2, 0);
        CHECK.same("eight: heard 7 ticks ago", x.view(2, 0), "1 0 3 1");
        x.ticksHeard(1, 2, 0);
        CHECK.same("eight: 8", x.view(2, 0), "1 0 1 2");
        CHECK.same("eight: CONFIG to all of the shard", x.newest(2, 0) + ", " + x.newest(2, 1),
                "14 0 1 0 1 2, 14 0 1 0 1 2");
        x.ticksHeard(8, 2, 0);
        CHECK.same("eight: once", x.view(2, 0), "1 0 1 2");
    }

    /** "(by numbers, each wholly ahead of the next one)" */
    private static void deadByNumbers() {
        Cluster x = new Cluster(3, 1, 3);
        x.ticks(8);
        CHECK.same("numbers: 1 after 0, 2 after 1, nobody after 2", x.view(3, 0), "3 2 4 3");
        CHECK.same("numbers: two CONFIGS to each", x.kinds(3, 0) + "/" + x.kinds(3, 1) + "/" + x.kinds(3, 2),
                "14 14/14 14/14 14");
    }

    private static void deadFollowersFirst() {
        Cluster x = new Cluster(3, 3, 3);
        x.ticks(8);
        CHECK.same("followers: of shard 2", x.view(3, 2), "1 2 4 3");
        CHECK.same("followers: of shard 1", x.view(3, 1), "2 2 4 3");
    }

    /** "(if there is none: nothing happens)" */
    private static void deadOneAlone() {
        Cluster x = new Cluster(1, 1, 1);
        int before = x.told(5);
        x.ticks(8);
        CHECK.same("alone: nothing happens", x.view(1, 0), "1 0 1 1");
        CHECK.due("alone: no record", x.told(5), before);
        CHECK.due("alone: no CONFIG", x.link(1, 0), 0);
        x.drain(0, 1);
        CHECK.same("alone: nor when it is heard again", x.view(1, 0), "1 0 1 1");
        CHECK.due("alone: for it tells the same VERSION and TERM", x.link(1, 0), 0);
    }

    /** ".. and the primary is ALIVE"; "For each shard whose primary is DEAD and in whose MASK x is: PROMOTE." */
    private static void deadPrimaryAdds() {
        Cluster x = withOneOutside(0);
        x.clear(0, 2);
        x.clear(1, 2);
        x.deliver(1, 0);
        x.drain(0, 1);
        x.deliver(1, 0);
        CHECK.same("adds: ADD", x.kinds(0, 2), "11");
        // node 0 is heard no more, but its ADD comes when it is DEAD
        x.ticksHeard(8, 2, 1);
        CHECK.same("adds: nobody else is in the mask", x.view(2, 0), "1 0 1 2");
        x.clear(2, 0);
        x.clear(2, 1);
        CHECK.due("adds: ADD", x.deliver(0, 2), 11);
        CHECK.same("adds: of a dead one counts", x.view(2, 0), "1 0 3 3");
        x.clear(0, 2);
        x.clear(1, 2);
        x.clear(2, 0);
        x.clear(2, 1);
        x.ticks(8);
        CHECK.same("adds: node 1 is dead, too, and stays in", x.view(2, 0), "1 0 3 3");
        x.deliver(1, 2);
        CHECK.same("adds: heard again, it is primary", x.view(2, 0), "2 1 2 4");
        CHECK.same("adds: one CONFIG each", x.kinds(2, 0) + "/" + x.kinds(2, 1), "14/14");
    }

    /** "the least node in MASK that is ALIVE becomes primary .. MASK without the primary of before, if that is DEAD" */
    private static void promotesTheLeast() {
        Cluster x = new Cluster(5, 3, 3);
        // shard 2 is at 2, 3, 4
        x.down(2);
        x.start(2);
        x.deliver(2, 5);
        CHECK.same("least: itself, for it is the least", x.view(5, 2), "2 2 28 2");
        x.down(2);
        x.ticksHeard(10, 5, 0, 1, 3, 4);
        CHECK.same("least: 3, and 2 is dead", x.view(5, 2), "3 3 24 3");
        CHECK.same("least: shard 1 lost a follower", x.view(5, 1), "1 1 10 2");
    }

    /** "HELLO: when x is primary: PROMOTE, else CONFIG to x" */
    private static void helloOfAFollower() {
        Cluster x = new Cluster(3, 2, 2);
        x.down(1);
        x.start(1);
        int before = x.told(5);
        x.deliver(1, 3);
        CHECK.same("hello: shard 0's view stays, shard 1's does not", x.view(3, 0) + ", " + x.view(3, 1),
                "1 0 3 1, 2 1 6 2");
        CHECK.due("hello: one record", x.told(5) - before, 1);
        CHECK.same("hello: CONFIG of both to it", x.message(3, 1, 0, 1) + " " + x.message(3, 1, 1, 1), "0 1");
        CHECK.same("hello: of shard 1 to the other one", x.kinds(3, 2) + "/" + x.kinds(3, 0), "14/");
    }

    private static void helloOfThePrimary() {
        Cluster x = new Cluster(3, 2, 3);
        x.down(1);
        x.start(1);
        x.deliver(1, 3);
        CHECK.same("primary: of shard 1 the least is another one, and it stays in", x.view(3, 1), "2 0 7 2");
        x.drain(3, 0);
        x.drain(3, 1);
        CHECK.due("primary: node 0", x.copy(0, 1, 5), 2);
        CHECK.due("primary: node 1 follows", x.copy(1, 1, 5), 1);
    }

    private static void helloOfOneWithoutCopy() {
        Cluster x = new Cluster(3, 1, 2);
        x.down(2);
        x.start(2);
        x.deliver(2, 3);
        CHECK.due("no copy: nothing", x.told(2) + x.told(5), 0);
        x.ticksHeard(16, 3, 0, 1);
        CHECK.due("no copy: nor when it is dead", x.told(5), 0);
    }

    /** "BEAT: when the VERSION told is below the VIEW's: CONFIG to x" */
    private static void beatOfOldVersion() {
        Cluster x = new Cluster(3, 1, 3);
        x.down(2);
        x.ticksHeard(8, 3, 0, 1);
        CHECK.same("old: without 2", x.view(3, 0), "1 0 3 2");
        x.clear(3, 0);
        x.clear(3, 1);
        x.ticks(2);
        x.deliver(1, 3);
        CHECK.same("old: CONFIG", x.message(3, 1, 0), "14 0 1 0 3 2");
        CHECK.due("old: to no other", x.link(3, 0), 0);
        x.drain(3, 1);
        x.ticks(2);
        x.drain(1, 3);
        CHECK.due("old: no more when it knows it", x.link(3, 1), 0);
        x.drain(0, 3);
        CHECK.same("old: the primary is told, too, and stays it", x.kinds(3, 0) + "/" + x.view(3, 0), "14 14/1 0 3 2");
    }

    /** "else when x is primary, and the TERM told is not the VIEW's: PROMOTE. (It may choose the same node again.)" */
    private static void beatOfNoTerm() {
        Cluster x = new Cluster(3, 2, 2);
        x.down(0);
        x.start(0);
        x.lose(0, 3);
        x.ticks(2);
        x.deliver(0, 3);
        x.drain(3, 0);
        CHECK.same("no term: it follows", x.copy(0, 0), "1 0 0 0 0 1");
        x.ticks(2);
        x.deliver(0, 3);
        CHECK.same("no term: the same node again", x.view(3, 0), "2 0 3 2");
        Cluster y = new Cluster(2, 2, 2);
        y.down(1);
        y.start(1);
        y.lose(1, 2);
        y.ticks(2);
        y.deliver(1, 2);
        y.drain(2, 1);
        y.ticks(2);
        y.deliver(1, 2);
        CHECK.same("no term: or another", y.view(2, 1), "2 0 3 2");
    }

    private static void beatOfOneThatWasDead() {
        Cluster x = new Cluster(2, 1, 2);
        x.ticksHeard(8, 2, 0);
        CHECK.same("was dead: out", x.view(2, 0), "1 0 1 2");
        x.clear(2, 1);
        CHECK.due("was dead: BEAT", x.deliver(1, 2), 16);
        CHECK.same("was dead: it is told", x.kinds(2, 1), "14");
        CHECK.same("was dead: but not in", x.view(2, 0), "1 0 1 2");
        x.drain(2, 1);
        CHECK.due("was dead: so it joins", x.copy(1, 0, 5), 0);
    }

    /** "each node that is UP, THE KEEPER last, does what follows" */
    private static void keeperIsDown() {
        Cluster x = new Cluster(2, 1, 2);
        x.down(2);
        x.ticks(20);
        x.start(2);
        CHECK.same("keeper: nobody was dead for it", x.view(2, 0), "1 0 3 1");
        Cluster y = new Cluster(2, 1, 2);
        y.drop(0, 0);
        y.down(0);
        y.down(1);
        y.ticks(7);
        CHECK.due("keeper: nodes that are down send nothing", y.told(2), 1);
        CHECK.due("keeper: nor do their requests age", y.request(0, 3), 0);
    }

    // ---- 6 REQUESTS

    /** "else if NOW - TRIED is 8 or more: a is one more, TRIED is NOW, ROUTE again" */
    private static void triedAtEight() {
        Cluster x = new Cluster();
        x.ticks(3);
        int r = x.drop(2, 0);
        x.clear(2, 3);
        x.ticks(7);
        CHECK.due("tried: not at 7", x.request(r, 3), 0);
        x.clear(2, 3);
        x.tick();
        CHECK.due("tried: at 8", x.request(r, 3), 1);
        CHECK.same("tried: ROUTE r a", x.newest(2, 3), "1 0 1 0 0 0");
        x.ticks(7);
        CHECK.due("tried: not at 15", x.request(r, 3), 1);
        x.tick();
        CHECK.due("tried: at 16", x.request(r, 3), 2);
        CHECK.due("tried: it came at 3", x.request(r, 4), 3);
    }

    /** "NOW less the TICK at which it came is 40: FAILED" */
    private static void failedAtForty() {
        Cluster x = new Cluster();
        x.down(3);
        x.ticks(5);
        int r = x.drop(2, 0);
        x.ticks(39);
        CHECK.same("forty: open at 39, of attempt 4", x.request(r, 0) + " " + x.request(r, 3), "0 4");
        x.clear(2, 3);
        x.tick();
        CHECK.same("forty: failed at 40, not tried again", x.request(r, 0) + " " + x.request(r, 3), "2 4");
        CHECK.due("forty: no ROUTE", x.link(2, 3), 0);
        x.ticks(8);
        CHECK.same("forty: nor later", x.request(r, 0) + " " + x.request(r, 3), "2 4");
    }

    /** "an open one": those that are DONE or FAILED neither try again nor FAIL. */
    private static void closedOnesStayClosed() {
        Cluster x = new Cluster(3, 1, 1);
        int open = x.drop(2, 0);
        x.lose(2, 3);
        int done = x.drop(2, 0);
        int failed = x.drop(1, 0);
        x.down(1);
        x.run(3);
        CHECK.same("closed: open, done, failed", x.request(open, 0) + " " + x.request(done, 0) + " "
                + x.request(failed, 0), "0 1 2");
        x.down(3);
        x.start(1);
        x.ticks(37);
        CHECK.same("closed: one was tried again", x.request(open, 3) + " " + x.request(done, 3) + " "
                + x.request(failed, 3), "4 0 0");
        CHECK.same("closed: and failed at 40", x.request(open, 0) + " " + x.request(done, 0) + " "
                + x.request(failed, 0), "2 1 2");
    }

    /** "MAP r a, .. of another attempt than a ..: nothing" */
    private static void mapOfAnotherAttempt() {
        Cluster x = new Cluster(2, 1, 1);
        int r = x.drop(1, 0);
        x.deliver(1, 2);
        x.ticks(8);
        CHECK.due("map: attempt 1", x.request(r, 3), 1);
        CHECK.due("map: of attempt 0", x.deliver(2, 1), 2);
        CHECK.due("map: no WRITE", x.link(1, 0), 0);
        x.drain(1, 2);
        x.deliver(2, 1);
        CHECK.same("map: of attempt 1: WRITE", x.message(1, 0, 0), "3 0 1 0 0 0");
    }

    /** ".. or when r is not open: nothing" */
    private static void mapOfOneThatFailed() {
        Cluster x = new Cluster(2, 1, 1);
        int r = x.drop(1, 0);
        x.deliver(1, 2);
        x.down(1);
        x.start(1);
        CHECK.due("failed: MAP", x.deliver(2, 1), 2);
        CHECK.due("failed: no WRITE", x.link(1, 0), 0);
        CHECK.due("failed: it stays so", x.request(r, 0), 2);
    }

    /** "DONE r: it is DONE, if it is open." */
    private static void doneOfOneThatFailed() {
        Cluster x = new Cluster(2, 1, 1);
        int r = x.drop(1, 0);
        x.ask(1, 2, 0);
        x.down(1);
        x.start(1);
        CHECK.due("failed: DONE", x.deliver(0, 1), 5);
        CHECK.due("failed: it stays so", x.request(r, 0), 2);
    }

    private static void doneOfAnyAttempt() {
        Cluster x = new Cluster(2, 1, 1);
        int r = x.drop(1, 0);
        x.ask(1, 2, 0);
        x.ticks(8);
        CHECK.due("any: attempt 1", x.request(r, 3), 1);
        CHECK.due("any: DONE", x.deliver(0, 1), 5);
        CHECK.same("any: it is", x.request(r, 0) + " " + x.request(r, 3), "1 1");
        x.ticks(8);
        CHECK.due("any: no more attempts", x.request(r, 3), 1);
    }

    /** "4 NO r a: nothing (but see 6)" */
    private static void noOfAWrite() {
        Cluster x = new Cluster(3, 1, 1);
        int r = x.drop(1, 0);
        x.deliver(1, 3);
        x.deliver(3, 1);
        x.down(0);
        x.start(0);
        x.deliver(1, 0);
        CHECK.due("no: NO", x.deliver(0, 1), 4);
        CHECK.same("no: open, of attempt 0", x.request(r, 0) + " " + x.request(r, 3), "0 0");
        x.run(12);
        CHECK.same("no: done at attempt 1", x.request(r, 0) + " " + x.request(r, 3), "1 1");
    }

    private static void noOfTheNextAttempt() {
        Cluster x = new Cluster(3, 1, 1);
        int r = x.refresh(1, 0);
        x.lose(1, 3);
        x.ticksHeard(8, 3, 0, 1);
        CHECK.due("next: attempt 1", x.request(r, 3), 1);
        x.drain(3, 1);
        CHECK.same("next: SHOW r a", x.message(1, 0, 0), "17 0 1 0 0 0");
        x.down(0);
        x.start(0);
        x.deliver(1, 0);
        CHECK.same("next: NO r a", x.message(0, 1, 0), "4 0 1 0 0 0");
        int f = x.find(1, 1, "cat");
        x.clear(1, 3);
        x.ticksHeard(8, 3, 1);
        x.clear(0, 1);
        x.drain(3, 1);
        while (x.message(1, 0, 0, 0) != 19) {
            x.lose(1, 0);
        }
        CHECK.same("next: OPEN r a shard", x.message(1, 0, 0), "19 " + f + " 1 0 0 0");
        x.deliver(1, 0);
        CHECK.same("next: NO r a", x.newest(0, 1), "4 " + f + " 1 0 0 0");
    }

    /** "of the q nodes in its MASK, by numbers, (r + a) % q (from 0): OPEN" */
    private static void copiesByTurns() {
        Cluster x = new Cluster(5, 3, 3);
        // shard 1 is at 1, 2, 3, shard 2 at 2, 3, 4
        for (int r = 0; r < 4; r++) {
            x.find(4, 1, "cat");
            x.deliver(4, 5);
            x.deliver(5, 4);
            for (int shard = 0; shard < 3; shard++) {
                int to = shard + r % 3;
                CHECK.same("turns: request " + r + " of shard " + shard, x.message(4, to, 0),
                        "19 " + r + " 0 " + shard + " 0 0");
                x.lose(4, to);
            }
        }
        x.ticksHeard(8, 5, 0, 1, 2, 3, 4);
        x.deliver(5, 4);
        CHECK.same("turns: attempt 1 of request 0", x.message(4, 1, 0), "19 0 1 0 0 0");
        Cluster y = new Cluster(3, 1, 3);
        y.down(1);
        y.ticksHeard(8, 3, 0, 2);
        y.find(0, 1, "cat");
        y.find(0, 1, "cat");
        y.drain(0, 3);
        y.drain(3, 0);
        CHECK.same("turns: of 0 and 2", y.message(0, 0, 0, 0) + " " + y.message(0, 2, 0, 0), "19 19");
    }

    /** "NO r a: the attempt of a FIND is over (what comes for it is nothing)" */
    private static void noEndsAnAttempt() {
        Cluster x = new Cluster(3, 2, 1);
        int r = x.find(2, 1, "cat");
        x.deliver(2, 3);
        x.deliver(3, 2);
        x.down(1);
        x.start(1);
        x.deliver(2, 0);
        x.deliver(2, 1);
        CHECK.same("over: STATS, NO", x.kinds(0, 2) + " " + x.kinds(1, 2), "20 4");
        x.deliver(1, 2);
        x.deliver(0, 2);
        CHECK.due("over: no SCORE", x.link(2, 0) + x.link(2, 1), 0);
        CHECK.due("over: it is open", x.request(r, 0), 0);
        x.run(16);
        CHECK.same("over: done at attempt 1", x.request(r, 0) + " " + x.request(r, 3), "1 1");
        // the other way round: the STATS of shard 0 are there, those of shard 1 cannot come any more
        Cluster y = new Cluster(3, 2, 1);
        int q = y.find(2, 1, "cat");
        y.ask(2, 3, 0);
        y.deliver(2, 1);
        y.deliver(0, 2);
        y.deliver(1, 2);
        CHECK.same("over: SCORE to both", y.kinds(2, 0) + " " + y.kinds(2, 1), "21 21");
        y.down(1);
        y.start(1);
        y.deliver(2, 0);
        y.deliver(2, 1);
        CHECK.same("over: TOP, NO", y.kinds(0, 2) + " " + y.kinds(1, 2), "22 4");
        y.deliver(0, 2);
        y.deliver(1, 2);
        CHECK.same("over: open", y.request(q, 0) + " " + y.request(q, 5), "0 0");
    }

    private static void noOfAnotherAttempt() {
        Cluster x = new Cluster(2, 1, 2);
        // request 1 of two nodes: node 1 at attempt 0, node 0 at attempt 1
        x.refresh(0, 0);
        x.clear(0, 2);
        int r = x.find(0, 1, "cat");
        x.deliver(0, 2);
        x.deliver(2, 0);
        CHECK.same("no: OPEN at node 1", x.message(0, 1, 0), "19 1 0 0 0 0");
        x.down(1);
        x.start(1);
        x.deliver(0, 1);
        CHECK.same("no: NO of attempt 0", x.message(1, 0, 0), "4 1 0 0 0 0");
        x.ticksHeard(8, 2, 0, 1);
        CHECK.due("no: attempt 1", x.request(r, 3), 1);
        x.drain(2, 0);
        CHECK.due("no: OPEN at node 0", x.message(0, 0, x.link(0, 0) - 1, 0), 19);
        CHECK.due("no: that of attempt 0", x.deliver(1, 0), 4);
        x.drain(0, 0);
        x.drain(0, 0);
        x.drain(0, 0);
        x.drain(0, 0);
        CHECK.same("no: was nothing", x.request(r, 0) + " " + x.request(r, 3), "1 1");
    }

    /** Two shards at nodes 0 and 1, a document in each that has the WORD. THE KEEPER is node 3, node 2 the host. */
    private static Cluster withTwoShards() {
        Cluster x = new Cluster(3, 2, 1);
        x.put(2, 0, "cat");
        x.put(2, 1, "cat cat");
        x.run(4);
        x.refresh(2, 0);
        x.refresh(2, 1);
        x.run(4);
        return x;
    }

    /** "Nothing was answered": what came of one shard at an attempt before counts no more. */
    private static void statsOfBothAttempts() {
        Cluster x = withTwoShards();
        int whole = x.find(2, 10, "cat");
        x.run(6);
        String due = x.hits(whole);
        int r = x.find(2, 10, "cat");
        x.drain(2, 3);
        x.drain(3, 2);
        x.deliver(2, 0);
        x.deliver(0, 2);
        x.clear(2, 1);
        CHECK.due("stats: of one shard alone", x.link(2, 0), 0);
        x.run(14);
        CHECK.same("stats: done at attempt 1", x.request(r, 0) + " " + x.request(r, 3), "1 1");
        CHECK.same("stats: nothing is added twice", x.hits(r), due);
    }

    private static void topsOfBothAttempts() {
        Cluster x = withTwoShards();
        int r = x.find(2, 10, "cat");
        x.run(3);
        CHECK.same("tops: both", x.kinds(0, 2) + " " + x.kinds(1, 2), "22 22");
        CHECK.same("tops: r a shard and how many", x.message(1, 2, 0), "22 " + r + " 0 1 1 0");
        x.deliver(0, 2);
        x.lose(1, 2);
        CHECK.same("tops: open, and none is told", x.request(r, 0) + " " + x.request(r, 5), "0 0");
        CHECK.outside("tops: none", () -> x.hit(r, 0, 0));
        x.run(14);
        CHECK.same("tops: done at attempt 1", x.request(r, 0) + " " + x.request(r, 3), "1 1");
        CHECK.same("tops: each once", x.hits(r).replaceAll(":\\d+", ""), "1 0");
        int again = x.find(2, 10, "cat");
        x.run(3);
        x.lose(0, 2);
        x.deliver(1, 2);
        x.run(14);
        CHECK.same("tops: nor the other one", x.hits(again).replaceAll(":\\d+", ""), "1 0");
    }

    private static void topOfAnotherAttempt() {
        Cluster x = new Cluster(1, 1, 1);
        int r = x.find(0, 1, "cat");
        x.ask(0, 1, 0);
        CHECK.due("top: STATS", x.deliver(0, 0), 20);
        CHECK.due("top: SCORE", x.deliver(0, 0), 21);
        CHECK.same("top: TOP r a shard and how many", x.message(0, 0, 0), "22 0 0 0 0 0");
        x.ticks(8);
        CHECK.due("top: attempt 1", x.request(r, 3), 1);
        CHECK.due("top: of attempt 0", x.deliver(0, 0), 22);
        CHECK.due("top: is nothing", x.request(r, 0), 0);
        x.run(6);
        CHECK.due("top: that of attempt 1 is not", x.request(r, 0), 1);
    }
}
