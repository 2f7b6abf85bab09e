/** The edges that the document's terms 3, COPIES, and 4, MESSAGES, name: each sentence by itself. */
public final class MessageEdgesTest {
    private static final Check CHECK = new Check();

    public static void main(String[] args) {
        atFirst();
        followerFlushes();
        showsAtLeastBase();
        leastOfHas();
        nobodyToWaitFor();
        leavingCounts();
        waitsInOrder();
        trackedMustSee();
        primaryAtNodeOne();
        becomesPrimary();
        becomesAgain();
        becomesWithoutCounts();
        cutActsAreNotDone();
        routeAndMap();
        writeOfWhatIsDone();
        writeOfWhatIsNotSure();
        writeOfThirtieth();
        writeToOthers();
        replBehindAGap();
        replTwice();
        replSure();
        replOfOldTerm();
        ackOfOneThatIsOut();
        ackOfOldTerm();
        ackOfOneThatJoins();
        ackTooShort();
        ackNotShown();
        ackIsHeard();
        syncOfOldTerm();
        syncOfNothingNew();
        syncOfNewTerm();
        syncFromBase();
        syncKeepsActsBehindBase();
        syncOfAnotherHistory();
        syncTearsAtItsFlush();
        syncTellsWhatIsDone();
        syncShows();
        primaryIsSynced();
        joins();
        joinsAgain();
        joinsWhileLeaving();
        joinsAfterItSaw();
        joinsWhileTracked();
        joinsOneThatIsNotPrimary();
        adds();
        addsTooLate();
        addsOfAnOldVersion();
        fails();
        failsOneThatIsOut();
        formerPrimary();
        primaryOfAnotherTerm();
        outOfAnotherCount();
        outOfTheThird();
        configTwice();
        configOfMask();
        configOfOldTerm();
        configOfAnother();
        configMakesIn();
        configWhileLeaving();
        showOfNothing();
        showTwice();
        showTwenty();
        showOfWhatIsShown();
        showToOthers();
        showToShort();
        showToTwice();
        showToOfOldTerm();
        toOneThatIsDown();
        CHECK.end("MessageEdgesTest");
    }

    /** Two COPIES, the one at node 1 OUTSIDE: it was away for eight TICKS; its JOIN is on its LINK. THE KEEPER is 2. */
    private static Cluster withOneOutside(int acts) {
        Cluster x = new Cluster(2, 1, 2);
        x.puts(0, acts);
        x.run(acts == 0 ? 0 : 4);
        x.down(1);
        x.run(10);
        x.clear(1, 2);
        x.start(1);
        x.deliver(1, 2);
        x.clear(2, 0);
        x.deliver(2, 1);
        return x;
    }

    /** As that, and its SYNC is DELIVERED: its ACK is on its LINK. */
    private static Cluster withOneJoining(int acts) {
        Cluster x = withOneOutside(acts);
        x.deliver(1, 0);
        x.clear(0, 2);
        x.deliver(0, 1);
        return x;
    }

    // ---- 3 COPIES

    private static void atFirst() {
        Cluster x = new Cluster(3, 1, 3);
        CHECK.same("first: a primary", x.copy(0, 0), "1 0 0 0 0 2");
        CHECK.same("first: a follower", x.copy(2, 0), "1 0 0 0 0 1");
        CHECK.same("first: its view", x.view(2, 0), "1 0 7 1");
        CHECK.same("first: of the others", x.other(0, 0, 1), "3 0 0 0");
        CHECK.same("first: of the third", x.other(0, 0, 2), "3 0 0 0");
        CHECK.due("first: no segments", x.copy(0, 0, 6), 0);
        CHECK.due("first: no documents", x.copy(0, 0, 8), 0);
    }

    /** "if LAST - BASE is 60 or more, and SURE above BASE, a FLUSH" */
    private static void followerFlushes() {
        Cluster x = new Cluster(2, 1, 2);
        x.puts(0, 30);
        x.run(4);
        x.puts(0, 30);
        x.run(4);
        CHECK.same("flushes: 60 acts", x.copy(1, 0), "1 0 60 30 0 1");
        x.puts(0, 1);
        x.run(4);
        CHECK.same("flushes: the primary", x.copy(0, 0), "1 60 61 61 0 2");
        CHECK.same("flushes: the follower heard that 60 are sure", x.copy(1, 0), "1 60 61 60 0 1");
        CHECK.due("flushes: its generation", x.copy(1, 0, 7), 2);
    }

    /** "It SHOWS v (or BASE, if that is more ..)" */
    private static void showsAtLeastBase() {
        Cluster x = new Cluster(2, 1, 2);
        x.down(1);
        x.run(10);
        x.puts(0, 3);
        x.run(3);
        x.refresh(0, 0);
        x.run(3);
        x.puts(0, 57);
        x.run(3);
        x.puts(0, 1);
        x.run(3);
        CHECK.same("shows: three are shown", x.copy(0, 0), "1 60 61 61 3 2");
        x.start(1);
        x.run(4);
        CHECK.same("shows: the base, for it has no less", x.copy(1, 0), "1 60 61 61 60 1");
        CHECK.due("shows: its documents", x.segment(1, 0, 0, 0), 57);
        CHECK.due("shows: the primary's", x.segment(0, 0, 0, 0), 3);
        CHECK.same("shows: the record", x.octets(1, 0, 0, 70 + 57 * 6 + 5 + 12, 5), "4 2 0 60 255");
    }

    /** "m is the least of LAST and HAS of all with STATE 2 .. 4" */
    private static void leastOfHas() {
        Cluster x = new Cluster(3, 1, 3);
        x.puts(0, 3);
        x.deliver(0, 3, 3);
        x.deliver(3, 0, 3);
        x.deliver(0, 0, 3);
        x.deliver(0, 1, 3);
        x.deliver(0, 2, 2);
        x.drain(1, 0);
        CHECK.due("least: one has 0", x.copy(0, 0, 3), 0);
        CHECK.due("least: nobody is told", x.link(0, 0), 0);
        x.deliver(2, 0);
        CHECK.due("least: 3 and 1", x.copy(0, 0, 3), 1);
        CHECK.same("least: DONE of the first", x.kinds(0, 0), "5");
        x.deliver(2, 0);
        CHECK.due("least: 3 and 2", x.copy(0, 0, 3), 2);
        CHECK.same("least: DONE of the second", x.newest(0, 0), "5 1 0 0 0 0");
    }

    private static void nobodyToWaitFor() {
        Cluster x = new Cluster(2, 1, 1);
        x.puts(1, 2);
        x.deliver(1, 2, 2);
        x.deliver(2, 1, 2);
        x.deliver(1, 0, 2);
        CHECK.due("nobody: sure at once", x.copy(0, 0, 3), 2);
        CHECK.same("nobody: both are done", x.kinds(0, 1), "5 5");
    }

    /** STATE 4 counts till OUT comes; STATE 0 does not. */
    private static void leavingCounts() {
        Cluster x = new Cluster(2, 1, 2);
        x.puts(0, 1);
        x.ask(0, 2, 0);
        x.ticksHeard(8, 2, 0, 1);
        x.clear(0, 1);
        x.tick();
        CHECK.same("leaving: STATE 4", x.other(0, 0, 1), "4 0 0 0");
        CHECK.due("leaving: not sure", x.copy(0, 0, 3), 0);
        x.drain(0, 2);
        CHECK.same("leaving: MAP of attempt 1, CONFIG and OUT", x.kinds(2, 0), "2 14 13");
        x.deliver(2, 0, 2);
        CHECK.same("leaving: it is not in the mask", x.view(0, 0), "1 0 1 2");
        CHECK.same("leaving: STATE 4 yet", x.other(0, 0, 1), "4 0 0 0");
        CHECK.due("leaving: not sure yet", x.copy(0, 0, 3), 0);
        x.deliver(2, 0);
        CHECK.same("leaving: STATE 0", x.other(0, 0, 1), "0 0 0 0");
        CHECK.due("leaving: sure", x.copy(0, 0, 3), 1);
    }

    /** "each REFRESH that WAITS, in order, whose number is not above SHOWN, nor above SAW of any with STATE 2 .. 4" */
    private static void waitsInOrder() {
        Cluster x = new Cluster(2, 1, 2);
        x.puts(0, 1);
        x.run(4);
        int first = x.refresh(0, 0);
        x.puts(0, 1);
        x.drain(0, 2);
        x.drain(2, 0);
        x.drain(0, 0);
        CHECK.same("order: SHOWTO 1, REPL 2", x.kinds(0, 1), "18 6");
        x.lose(0, 1);
        x.deliver(0, 1);
        x.deliver(1, 0);
        CHECK.same("order: 2 acts, none seen", x.other(0, 0, 1), "3 2 0 0");
        x.clear(0, 0);
        x.tick();
        CHECK.same("order: SHOWTO 1 again", x.newest(0, 1), "18 0 1 1 0 0");
        int second = x.refresh(0, 0);
        x.drain(0, 2);
        x.drain(2, 0);
        x.drain(0, 0);
        CHECK.same("order: SHOWTO 1, SHOWTO 2", x.kinds(0, 1) + " " + x.message(0, 1, 1, 3), "18 18 2");
        x.deliver(0, 1);
        x.deliver(1, 0);
        CHECK.same("order: the first is done", x.kinds(0, 0) + ": " + x.newest(0, 0), "5: 5 " + first + " 0 0 0 0");
        x.clear(0, 0);
        x.put(0, 7);
        x.drain(0, 2);
        x.drain(2, 0);
        x.drain(0, 0);
        CHECK.same("order: the second waits, whatever is settled", x.kinds(0, 0), "");
        x.deliver(0, 1);
        x.deliver(1, 0);
        CHECK.same("order: then the second", x.kinds(0, 0) + ": " + x.newest(0, 0), "5: 5 " + second + " 0 0 0 0");
    }

    /** STATE 2 is waited for, by ACTS and by REFRESHES; STATE 1 is not. */
    private static void trackedMustSee() {
        Cluster x = withOneJoining(1);
        x.deliver(1, 0);
        CHECK.due("tracked: STATE 2", x.other(0, 0, 1, 0), 2);
        x.clear(0, 2);
        int r = x.refresh(0, 0);
        x.drain(0, 2);
        x.drain(2, 0);
        x.drain(0, 0);
        CHECK.same("tracked: it waits", x.kinds(0, 0) + "/" + x.kinds(0, 1), "/18");
        x.drain(0, 1);
        x.drain(1, 0);
        CHECK.same("tracked: it saw", x.newest(0, 0), "5 " + r + " 0 0 0 0");
        Cluster y = withOneOutside(1);
        y.deliver(1, 0);
        y.clear(0, 2);
        y.refresh(0, 0);
        y.drain(0, 2);
        y.drain(2, 0);
        y.drain(0, 0);
        CHECK.due("tracked: STATE 1", y.other(0, 0, 1, 0), 1);
        CHECK.same("tracked: is not waited for", y.kinds(0, 0), "5");
    }

    /** The other COPY at node 0: all that a PRIMARY does for others it does for the first of them. */
    private static void primaryAtNodeOne() {
        Cluster x = new Cluster(2, 2, 2);
        CHECK.same("node one: at first", x.other(1, 1, 0), "3 0 0 0");
        x.put(1, 1);
        x.drain(1, 2);
        x.drain(2, 1);
        x.drain(1, 1);
        CHECK.same("node one: REPL", x.message(1, 0, 0), "6 1 1 1 0 0");
        CHECK.due("node one: it waits", x.copy(1, 1, 3), 0);
        x.clear(1, 0);
        x.ticksHeard(3, 2, 0, 1);
        CHECK.same("node one: REPL again", x.kinds(1, 0), "6");
        x.drain(1, 0);
        x.drain(0, 1);
        CHECK.same("node one: sure", x.copy(1, 1), "1 0 1 1 0 2");
        x.clear(1, 1);
        x.refresh(1, 1);
        x.drain(1, 2);
        x.drain(2, 1);
        x.drain(1, 1);
        CHECK.same("node one: SHOWTO", x.message(1, 0, 0), "18 1 1 1 0 0");
        CHECK.due("node one: it waits for that, too", x.link(1, 1), 0);
        x.drain(1, 0);
        x.drain(0, 1);
        CHECK.same("node one: done", x.kinds(1, 1), "5");
        x.ticksHeard(9, 2, 1);
        x.drain(2, 1);
        CHECK.same("node one: without node 0", x.view(1, 1) + ", " + x.other(1, 1, 0), "1 1 2 2, 0 1 1 0");
    }

    /** "each other COPY's node in the VIEW's MASK has STATE 3, the others 0; all HAS NONE, SAW 0 .. COUNT 0" */
    private static void becomesPrimary() {
        Cluster x = new Cluster(3, 1, 3);
        x.puts(1, 2);
        x.run(5);
        x.refresh(1, 0);
        x.run(4);
        x.down(0);
        x.run(9);
        CHECK.same("becomes: the keeper's view", x.view(3, 0), "2 1 6 2");
        CHECK.same("becomes: node 1", x.copy(1, 0), "2 0 2 2 2 2");
        CHECK.same("becomes: of node 0, which is out", x.other(1, 0, 0), "0 -1 0 0");
        CHECK.same("becomes: of node 2, which answered", x.other(1, 0, 2), "3 2 2 0");
        CHECK.same("becomes: CUT to its last", x.octets(1, 0, 1, 75 + 24 + 5, 8), "3 4 0 2 0 2 255 0");
        CHECK.same("becomes: node 2 follows it", x.copy(2, 0), "2 0 2 2 2 1");
        Cluster y = new Cluster(3, 1, 3);
        y.puts(1, 1);
        y.run(4);
        y.down(0);
        y.start(0);
        y.drain(0, 3);
        y.drain(3, 0);
        CHECK.same("becomes: nobody answered yet", y.other(0, 0, 1) + " " + y.other(0, 0, 2), "3 -1 0 0 3 -1 0 0");
        CHECK.same("becomes: none of its acts is sure", y.copy(0, 0), "2 0 1 0 0 2");
        CHECK.same("becomes: SYNC to both", y.newest(0, 1) + ", " + y.newest(0, 2), "8 0 2 0 0 1, 8 0 2 0 0 1");
        y.drain(0, 1);
        y.drain(1, 0);
        CHECK.due("becomes: one is not enough", y.copy(0, 0, 3), 0);
        y.drain(0, 2);
        y.drain(2, 0);
        CHECK.due("becomes: both are", y.copy(0, 0, 3), 1);
    }

    /** "nothing WAITS": a REFRESH that waited is not told when the same node BECOMES PRIMARY again. */
    private static void becomesAgain() {
        Cluster x = new Cluster(3, 1, 2);
        x.puts(2, 1);
        x.run(4);
        x.drain(0, 3);
        x.down(0);
        x.start(0);
        x.down(0);
        x.start(0);
        x.deliver(0, 3);
        x.deliver(3, 0);
        x.drain(0, 1);
        x.drain(1, 0);
        x.clear(0, 2);
        CHECK.same("again: primary of TERM 2", x.copy(0, 0), "2 0 1 1 0 2");
        int r = x.refresh(2, 0);
        x.drain(2, 3);
        x.drain(3, 2);
        x.deliver(2, 0);
        CHECK.same("again: SHOWTO, for it waits", x.newest(0, 1), "18 0 2 1 0 0");
        CHECK.due("again: a second HELLO", x.deliver(0, 3), 15);
        x.drain(3, 0);
        CHECK.same("again: primary of TERM 3", x.copy(0, 0), "3 0 1 1 1 2");
        x.drain(0, 1);
        x.drain(1, 0);
        CHECK.same("again: the other one saw it", x.other(0, 0, 1), "3 1 1 0");
        CHECK.same("again: but nobody waited any more", x.kinds(0, 2), "");
        x.run(16);
        CHECK.due("again: done at its next attempt", x.request(r, 0) * 10 + x.request(r, 3), 11);
    }

    private static void becomesWithoutCounts() {
        Cluster x = withOneJoining(1);
        x.run(4);
        CHECK.same("counts: it is in again", x.other(0, 0, 1), "3 1 0 1");
        x.clear(0, 2);
        x.down(0);
        x.start(0);
        x.deliver(0, 2);
        x.drain(2, 0);
        CHECK.same("counts: COUNT 0", x.copy(0, 0, 0) + ": " + x.other(0, 0, 1), "2: 3 -1 0 0");
    }

    /** "ACTS above m are gone (their REQUESTS DONE no more)" */
    private static void cutActsAreNotDone() {
        Cluster x = new Cluster(3, 1, 2);
        int r = x.put(2, 5, "cat");
        x.ask(2, 3, 0);
        x.lose(0, 1);
        CHECK.due("cut: node 0 has it", x.copy(0, 0, 2), 1);
        x.down(0);
        x.run(9);
        x.start(0);
        x.run(12);
        CHECK.due("cut: done by the other one", x.request(r, 0), 1);
        CHECK.due("cut: not at the first attempt", x.request(r, 3) > 0 ? 1 : 0, 1);
        CHECK.due("cut: once at node 1", x.copy(1, 0, 2), 1);
        CHECK.due("cut: once at node 0", x.copy(0, 0, 2), 1);
        CHECK.due("cut: of TERM 2", x.copy(0, 0, 0), 2);
    }

    // ---- 4 MESSAGES: ROUTE, MAP, WRITE

    private static void routeAndMap() {
        Cluster x = new Cluster(3, 2, 1);
        x.drop(2, 1);
        CHECK.same("route: r a", x.message(2, 3, 0), "1 0 0 0 0 0");
        x.deliver(2, 3);
        CHECK.same("route: MAP r a", x.message(3, 2, 0), "2 0 0 0 0 0");
        x.deliver(3, 2);
        CHECK.same("route: WRITE r a to the shard's primary", x.message(2, 1, 0), "3 0 0 0 0 0");
        CHECK.due("route: to no other", x.told(2), 1);
    }

    /** "if r is DONE: if its ACT is not above SURE, DONE r is SENT back" */
    private static void writeOfWhatIsDone() {
        Cluster x = new Cluster(2, 1, 2);
        int r = x.put(1, 0);
        x.ask(1, 2, 0);
        x.deliver(0, 1);
        x.deliver(1, 0);
        CHECK.due("done: DONE is lost", x.lose(0, 1), 5);
        x.run(8);
        CHECK.same("done: attempt 1", x.request(r, 0) + " " + x.request(r, 3), "0 1");
        x.run(2);
        CHECK.same("done: DONE r", x.message(0, 1, 0), "5 0 0 0 0 0");
        x.run(1);
        CHECK.due("done: told again", x.request(r, 0), 1);
        CHECK.due("done: but done once", x.copy(0, 0, 2), 1);
    }

    /** "(else nothing)" */
    private static void writeOfWhatIsNotSure() {
        Cluster x = new Cluster(2, 1, 2);
        int r = x.put(0, 0);
        x.ask(0, 2, 0);
        x.ticksHeard(8, 2, 0, 1);
        x.clear(0, 1);
        CHECK.due("not sure: attempt 1", x.request(r, 3), 1);
        CHECK.same("not sure: MAP", x.newest(2, 0), "2 0 1 0 0 0");
        x.drain(2, 0);
        CHECK.same("not sure: WRITE", x.kinds(0, 0), "3");
        x.deliver(0, 0);
        CHECK.due("not sure: nothing is sent back", x.link(0, 0), 0);
        CHECK.due("not sure: nor to the other one", x.link(0, 1), 0);
        CHECK.due("not sure: nor done twice", x.copy(0, 0, 2), 1);
    }

    /** "if LAST - SURE is 30 or more: NO r a" */
    private static void writeOfThirtieth() {
        Cluster x = new Cluster(2, 1, 2);
        x.puts(0, 32);
        x.deliver(0, 2, 32);
        x.deliver(2, 0, 32);
        x.deliver(0, 0, 29);
        CHECK.due("30: 29 are not sure", x.copy(0, 0, 2), 29);
        x.deliver(0, 0);
        CHECK.due("30: the 30th is taken", x.copy(0, 0, 2), 30);
        x.deliver(0, 0);
        CHECK.due("30: the 31st is not", x.copy(0, 0, 2), 30);
        CHECK.same("30: NO r a", x.newest(0, 0), "4 30 0 0 0 0");
        CHECK.due("30: nor sent on", x.link(0, 1), 30);
        x.deliver(0, 1);
        x.deliver(1, 0);
        CHECK.due("30: one is sure", x.copy(0, 0, 3), 1);
        x.deliver(0, 0);
        CHECK.due("30: so the next one is taken", x.copy(0, 0, 2), 31);
        CHECK.due("30: NO changes nothing", x.deliver(0, 0), 4);
        CHECK.due("30: it is open", x.request(30, 0), 0);
    }

    /** "Of others: NO r a is SENT back." */
    private static void writeToOthers() {
        Cluster x = new Cluster(3, 1, 2);
        x.put(2, 0);
        x.deliver(2, 3);
        x.deliver(3, 2);
        x.down(0);
        x.start(0);
        x.deliver(2, 0);
        CHECK.same("others: outside", x.kinds(0, 2), "4");
        CHECK.due("others: no act", x.copy(0, 0, 2), 0);
        Cluster y = new Cluster(3, 1, 2);
        y.put(2, 0);
        y.deliver(2, 3);
        y.deliver(3, 2);
        // node 1 is primary before the WRITE comes to node 0, which follows
        y.down(0);
        y.run(9);
        CHECK.same("others: node 1", y.view(3, 0), "2 1 2 2");
        y.start(0);
        y.run(6);
        CHECK.due("others: node 0 follows", y.copy(0, 0, 5), 1);
        CHECK.due("others: the put was done at node 1", y.request(0, 0), 1);
    }

    // ---- 4 MESSAGES: REPL

    /** "if q is LAST + 1: it is APPENDED ..; ACK is SENT back in any case" */
    private static void replBehindAGap() {
        Cluster x = new Cluster(2, 1, 2);
        x.puts(0, 2);
        x.deliver(0, 2, 2);
        x.deliver(2, 0, 2);
        x.deliver(0, 0, 2);
        CHECK.same("gap: REPL s t q r u", x.message(0, 1, 1), "6 0 1 2 1 0");
        x.lose(0, 1);
        x.deliver(0, 1);
        CHECK.due("gap: not appended", x.copy(1, 0, 2), 0);
        CHECK.same("gap: ACK s t l v", x.message(1, 0, 0), "7 0 1 0 0 0");
    }

    private static void replTwice() {
        Cluster x = new Cluster(2, 1, 2);
        x.puts(0, 2);
        x.deliver(0, 2, 2);
        x.deliver(2, 0, 2);
        x.deliver(0, 0, 2);
        x.ticks(3);
        CHECK.same("twice: both once more", x.kinds(0, 1), "6 6 6 6");
        int before = x.told(5);
        x.deliver(0, 1, 4);
        CHECK.due("twice: two acts", x.copy(1, 0, 2), 2);
        CHECK.due("twice: two blocks", x.told(5) - before, 2);
        CHECK.same("twice: an ACK each", x.kinds(1, 0), "7 7 7 7");
        CHECK.same("twice: each with its last", x.message(1, 0, 0, 3) + " " + x.message(1, 0, 1, 3) + " "
                + x.message(1, 0, 2, 3), "1 2 2");
    }

    /** "SURE is the greater of it and the lesser of u and LAST ..; and SURE once more so" */
    private static void replSure() {
        Cluster x = withOneJoining(1);
        // while it joins, the others go on: two ACTS that are SURE at once
        x.puts(0, 1);
        x.drain(0, 2);
        x.drain(2, 0);
        x.drain(0, 0);
        x.deliver(1, 0);
        CHECK.same("sure: it joins, and has one", x.other(0, 0, 1), "1 1 0 1");
        x.puts(0, 1);
        x.drain(0, 2);
        x.drain(2, 0);
        x.drain(0, 0);
        CHECK.same("sure: REPL of the third", x.newest(0, 1), "6 0 1 3 2 2");
        CHECK.same("sure: before", x.copy(1, 0), "1 0 1 1 0 0");
        x.drain(0, 1);
        CHECK.same("sure: 2, but it has one act alone", x.copy(1, 0), "1 0 1 1 0 0");
        x.drain(1, 0);
        x.clear(0, 1);
        x.ticksHeard(3, 2, 0);
        CHECK.same("sure: REPL of both", x.kinds(0, 1), "6 6");
        CHECK.same("sure: all are sure", x.message(0, 1, 0), "6 0 1 2 1 3");
        x.deliver(0, 1);
        CHECK.same("sure: as far as it has them", x.copy(1, 0), "1 0 2 2 0 0");
        CHECK.same("sure: its record tells what was sure before", x.octets(1, 0, 1, 75 + 12, 12),
                "1 9 0 2 0 1 0 1 0 1 0 255");
        x.deliver(0, 1);
        CHECK.same("sure: all", x.copy(1, 0), "1 0 3 3 0 0");
    }

    /** Three COPIES; node 0 is PRIMARY of TERM 1 yet, with a REPL and a SHOWTO on its LINKS, node 1 of TERM 2. */
    private static Cluster withTwoPrimaries() {
        Cluster x = new Cluster(3, 1, 3);
        x.puts(0, 1);
        x.run(4);
        x.refresh(0, 0);
        x.puts(0, 1);
        x.drain(0, 3);
        x.drain(3, 0);
        x.drain(0, 0);
        x.clear(0, 3);
        x.ticksHeard(10, 3, 1, 2);
        x.drain(3, 1);
        x.deliver(1, 2);
        return x;
    }

    /** "t below TERM, or a PRIMARY: nothing" */
    private static void replOfOldTerm() {
        Cluster x = withTwoPrimaries();
        CHECK.same("old: node 0", x.copy(0, 0), "1 0 2 1 1 2");
        CHECK.same("old: node 1", x.copy(1, 0), "2 0 1 0 0 2");
        CHECK.same("old: node 2", x.copy(2, 0), "2 0 1 0 0 1");
        CHECK.same("old: SHOWTO, REPL, and so on", x.kinds(0, 2).substring(0, 4), "18 6");
        x.drain(0, 2);
        x.drain(0, 1);
        CHECK.due("old: node 2 answers nothing", x.link(2, 0), 0);
        CHECK.due("old: nor does node 1", x.link(1, 0), 0);
        CHECK.same("old: node 1 as before", x.copy(1, 0), "2 0 1 0 0 2");
        CHECK.same("old: node 2 as before", x.copy(2, 0), "2 0 1 0 0 1");
    }

    private static void showToOfOldTerm() {
        Cluster x = withTwoPrimaries();
        CHECK.due("old: SHOWTO to node 2", x.deliver(0, 2), 18);
        CHECK.due("old: is nothing", x.copy(2, 0, 4) + x.copy(2, 0, 3) + x.link(2, 0), 0);
        CHECK.due("old: SHOWTO to node 1", x.deliver(0, 1), 18);
        CHECK.due("old: is nothing, either", x.copy(1, 0, 4) + x.copy(1, 0, 3) + x.link(1, 0), 0);
    }

    // ---- 4 MESSAGES: ACK

    /** "of a node with STATE above 0" */
    private static void ackOfOneThatIsOut() {
        Cluster x = new Cluster(2, 1, 2);
        x.puts(0, 1);
        x.ask(0, 2, 0);
        x.deliver(0, 1);
        x.ticksHeard(8, 2, 0);
        CHECK.same("out: CONFIG", x.newest(2, 0), "2 0 1 0 0 0");
        x.drain(2, 0);
        CHECK.same("out: STATE 0", x.other(0, 0, 1), "0 0 0 0");
        CHECK.due("out: ACK", x.deliver(1, 0), 7);
        CHECK.same("out: is nothing", x.other(0, 0, 1), "0 0 0 0");
    }

    /** "of a PRIMARY with TERM t" */
    private static void ackOfOldTerm() {
        Cluster x = new Cluster(2, 1, 2);
        x.puts(1, 1);
        x.ask(1, 2, 0);
        x.deliver(0, 1);
        x.down(0);
        x.start(0);
        x.deliver(0, 2);
        x.deliver(2, 0);
        CHECK.same("term: primary of TERM 2", x.copy(0, 0), "2 0 1 0 0 2");
        CHECK.same("term: ACK of TERM 1", x.message(1, 0, 0), "7 0 1 1 0 0");
        x.deliver(1, 0);
        CHECK.same("term: is nothing", x.other(0, 0, 1), "3 -1 0 0");
        CHECK.due("term: nothing is sure", x.copy(0, 0, 3), 0);
        x.deliver(0, 1);
        x.deliver(1, 0);
        CHECK.same("term: that of TERM 2 is not", x.other(0, 0, 1), "3 1 0 0");
        Cluster y = new Cluster(2, 1, 2);
        y.puts(1, 1);
        y.ask(1, 2, 0);
        y.deliver(0, 1);
        y.down(0);
        y.start(0);
        CHECK.due("term: to one that is no primary", y.deliver(1, 0), 7);
        CHECK.same("term: is nothing", y.copy(0, 0), "1 0 1 0 0 0");
    }

    /** "if STATE is 1, l is LAST, and v not below SHOWN: STATE 2, ADD for from is SENT to THE KEEPER" */
    private static void ackOfOneThatJoins() {
        Cluster x = withOneJoining(1);
        CHECK.same("joins: STATE 1", x.other(0, 0, 1), "1 -1 0 1");
        CHECK.same("joins: ACK", x.message(1, 0, 0), "7 0 1 1 0 0");
        x.deliver(1, 0);
        CHECK.same("joins: STATE 2", x.other(0, 0, 1), "2 1 0 1");
        CHECK.same("joins: ADD s t x v", x.newest(0, 2), "11 0 1 1 2 0");
        x.ticks(2);
        CHECK.same("joins: SENT is NOW, so not again yet", x.kinds(0, 2), "11 16");
        x.tick();
        CHECK.same("joins: but at the third tick", x.kinds(0, 2), "11 16 11");
    }

    private static void ackTooShort() {
        Cluster x = withOneJoining(1);
        x.puts(0, 1);
        x.drain(0, 2);
        x.drain(2, 0);
        x.drain(0, 0);
        CHECK.due("short: no REPL to one that has none", x.link(0, 1), 0);
        x.deliver(1, 0);
        CHECK.same("short: STATE 1 yet", x.other(0, 0, 1), "1 1 0 1");
        CHECK.due("short: no ADD", x.link(0, 2), 0);
    }

    private static void ackNotShown() {
        Cluster x = withOneJoining(1);
        x.refresh(0, 0);
        x.drain(0, 2);
        x.drain(2, 0);
        x.drain(0, 0);
        CHECK.due("shown: the primary", x.copy(0, 0, 4), 1);
        CHECK.due("shown: no SHOWTO to one that has none", x.link(0, 1), 0);
        x.deliver(1, 0);
        CHECK.same("shown: STATE 1 yet", x.other(0, 0, 1), "1 1 0 1");
        CHECK.due("shown: no ADD", x.link(0, 2), 0);
    }

    /** "HEARD NOW": who answers is not left, though it be BEHIND all the time. */
    private static void ackIsHeard() {
        Cluster x = new Cluster(2, 1, 2);
        x.puts(0, 2);
        x.deliver(0, 2, 2);
        x.deliver(2, 0, 2);
        x.deliver(0, 0, 2);
        x.ticksHeard(5, 2, 0, 1);
        x.deliver(0, 1);
        x.deliver(1, 0);
        CHECK.same("heard: at tick 5", x.other(0, 0, 1), "3 1 0 0");
        x.ticksHeard(8, 2, 0, 1);
        CHECK.due("heard: eight ticks later", x.other(0, 0, 1, 0), 3);
        x.tick();
        CHECK.due("heard: nine", x.other(0, 0, 1, 0), 4);
    }

    // ---- 4 MESSAGES: SYNC

    /** "t below TERM ..: nothing" */
    private static void syncOfOldTerm() {
        Cluster x = new Cluster(3, 1, 3);
        x.puts(0, 1);
        x.run(4);
        x.clear(0, 3);
        x.down(0);
        x.start(0);
        x.drain(0, 3);
        x.deliver(3, 0);
        CHECK.same("sync: node 0 of TERM 2", x.newest(0, 2), "8 0 2 0 0 1");
        x.ticksHeard(9, 3, 1, 2);
        CHECK.same("sync: node 1 of TERM 3", x.view(3, 0), "3 1 6 3");
        x.drain(3, 1);
        x.drain(1, 2);
        CHECK.same("sync: node 2 follows it", x.copy(2, 0), "3 0 1 0 0 1");
        CHECK.due("sync: SYNC of TERM 2", x.deliver(0, 2), 8);
        CHECK.due("sync: is nothing", x.link(2, 0), 0);
        CHECK.due("sync: SYNC of TERM 2 to the primary", x.deliver(0, 1), 8);
        CHECK.due("sync: is nothing, either", x.link(1, 0), 0);
        CHECK.same("sync: it is primary", x.copy(1, 0), "3 0 1 0 0 2");
    }

    /** No CUT where m is LAST and t is TERM. */
    private static void syncOfNothingNew() {
        Cluster x = withOneOutside(1);
        x.deliver(1, 0);
        int before = x.told(5);
        x.deliver(0, 1);
        CHECK.due("nothing new: no block", x.told(5), before);
        CHECK.same("nothing new: SURE", x.copy(1, 0), "1 0 1 1 0 0");
        CHECK.same("nothing new: ACK", x.message(1, 0, 0), "7 0 1 1 0 0");
    }

    /** "if m is below LAST, or t above TERM: CUT to m with TERM t" */
    private static void syncOfNewTerm() {
        Cluster x = new Cluster(2, 1, 2);
        x.puts(0, 2);
        x.run(4);
        x.clear(0, 2);
        x.down(0);
        x.start(0);
        x.deliver(0, 2);
        x.deliver(2, 0);
        x.drain(0, 1);
        CHECK.same("new term: CUT to its last", x.octets(1, 0, 1, 75 + 24, 8), "3 4 0 2 0 2 255 0");
        CHECK.same("new term: TERM 2, no more sure than before", x.copy(1, 0), "2 0 2 0 0 1");
        CHECK.same("new term: ACK", x.message(1, 0, 0), "7 0 2 2 0 0");
    }

    /** "If SURE is below b: BASE, its documents and what is DONE there are those of b" */
    private static void syncFromBase() {
        Cluster x = new Cluster(3, 1, 2);
        int late = x.put(2, 77, "late");
        x.ask(2, 3, 0);
        x.drain(0, 1);
        x.drain(1, 0);
        CHECK.due("base: its DONE is lost", x.lose(0, 2), 5);
        x.down(1);
        x.run(9);
        x.puts(0, 60);
        x.run(4);
        CHECK.same("base: the primary's", x.copy(0, 0), "1 60 61 61 0 2");
        x.start(1);
        x.drain(1, 3);
        x.drain(3, 1);
        x.deliver(1, 0);
        CHECK.same("base: SYNC s t b u l", x.newest(0, 1), "8 0 1 60 61 61");
        x.drain(0, 1);
        CHECK.same("base: node 1", x.copy(1, 0), "1 60 61 61 0 0");
        CHECK.due("base: a flush", x.copy(1, 0, 7), 2);
        CHECK.due("base: a document of the base", x.document(1, 77, 0), late);
        CHECK.due("base: 61 documents", x.copy(1, 0, 8), 61);
        CHECK.due("base: nothing is in its index", x.document(1, 77, 2), -1);
        x.run(5);
        CHECK.same("base: both count", x.view(3, 0), "1 0 3 3");
        x.down(0);
        x.run(12);
        CHECK.same("base: node 1 is primary", x.view(3, 0), "2 1 2 4");
        CHECK.due("base: done at node 1, which knew that it was", x.request(late, 0), 1);
        CHECK.due("base: not once more", x.copy(1, 0, 2), 61);
    }

    /** "own ACTS those b + 1 .. m, LAST is m, SURE the greater of b and the lesser of u and m, TERM t; a FLUSH" */
    private static void syncKeepsActsBehindBase() {
        Cluster x = new Cluster(2, 1, 2);
        x.puts(0, 30);
        x.run(4);
        x.puts(0, 30);
        x.drain(0, 2);
        x.drain(2, 0);
        x.drain(0, 0);
        x.drain(0, 1);
        CHECK.same("keeps: node 1 has 60, 30 of them sure", x.copy(1, 0), "1 0 60 30 0 1");
        x.deliver(1, 0, 10);
        CHECK.due("keeps: 40 are sure at node 0", x.copy(0, 0, 3), 40);
        x.clear(1, 0);
        x.puts(0, 1);
        x.deliver(0, 2);
        x.deliver(2, 0);
        x.deliver(0, 0, 11);
        CHECK.same("keeps: the base is 40", x.copy(0, 0), "1 40 61 40 0 2");
        x.clear(0, 1);
        x.down(1);
        x.run(9);
        x.start(1);
        CHECK.same("keeps: node 1 after its start", x.copy(1, 0), "1 0 60 30 0 0");
        x.run(3);
        CHECK.same("keeps: its acts 41 to 60 stayed, and were sure when it flushed", x.copy(1, 0), "1 60 61 61 0 0");
        CHECK.due("keeps: act 61", x.act(1, 0, 61), 60);
    }

    /**
     * Node 0 has 62 ACTS, 40 of them SURE; node 1, PRIMARY of TERM 2, has the first 45 of these and others up to 62,
     * and its BASE is 60. Node 0 is back, and the SYNC is on its LINK.
     */
    private static Cluster withTwoHistories() {
        Cluster x = new Cluster(2, 1, 2);
        x.puts(0, 30);
        x.run(4);
        x.puts(0, 15);
        x.drain(0, 2);
        x.drain(2, 0);
        x.drain(0, 0);
        x.drain(0, 1);
        x.deliver(1, 0, 10);
        x.clear(1, 0);
        x.puts(0, 17);
        x.deliver(0, 2, 17);
        x.deliver(2, 0, 17);
        x.drain(0, 0);
        x.clear(0, 1);
        CHECK.same("histories: node 0", x.copy(0, 0), "1 40 62 40 0 2");
        x.down(0);
        x.run(12);
        for (int i = 0; i < 17; i++) {
            x.put(1, 90);
        }
        x.run(4);
        CHECK.same("histories: node 1", x.copy(1, 0), "2 60 62 62 0 2");
        x.clear(1, 2);
        x.start(0);
        CHECK.same("histories: node 0 again", x.copy(0, 0), "1 40 62 40 40 0");
        x.drain(0, 2);
        x.drain(2, 0);
        x.clear(1, 0);
        x.deliver(0, 1);
        CHECK.same("histories: SYNC", x.message(1, 0, 0), "8 0 2 60 62 62");
        return x;
    }

    /** "own ACTS those b + 1 .. m, LAST is m": none of its own are left, and none of those of before the base. */
    private static void syncOfAnotherHistory() {
        Cluster x = withTwoHistories();
        x.deliver(1, 0);
        CHECK.same("histories: as node 1", x.copy(0, 0), "2 60 62 62 40 0");
        CHECK.same("histories: its acts", x.act(0, 0, 61) + " " + x.act(0, 0, 62), "77 78");
        // documents 0 to 14 were put last by ACTS 31 to 45; node 0 alone had put 0 to 16 once more
        CHECK.same("histories: its documents", x.document(0, 0, 0) + " " + x.document(0, 14, 0) + " "
                + x.document(0, 15, 0) + " " + x.document(0, 90, 0) + " " + x.copy(0, 0, 8), "30 44 15 78 31");
        CHECK.same("histories: its disk", x.octets(0, 0, 1, 0, 6), "5 67 0 60 0 2");
        x.down(0);
        x.start(0);
        CHECK.same("histories: read", x.copy(0, 0), "2 60 62 61 60 0");
    }

    /** A FLUSH that tears leaves all as it was, though much was another already. */
    private static void syncTearsAtItsFlush() {
        Cluster x = withTwoHistories();
        x.fail(0, 2, 0);
        x.deliver(1, 0);
        CHECK.due("tears: down", x.up(0), 0);
        CHECK.due("tears: no ACK", x.link(0, 1), 0);
        x.start(0);
        CHECK.same("tears: as it was", x.copy(0, 0), "1 40 62 40 40 0");
        CHECK.same("tears: its documents", x.document(0, 0, 0) + " " + x.document(0, 14, 1) + " "
                + x.document(0, 90, 0) + " " + x.copy(0, 0, 8), "45 14 -1 30");
        CHECK.due("tears: its acts", x.act(0, 0, 62), 61);
    }

    /** ".. and what is DONE there are those of b" */
    private static void syncTellsWhatIsDone() {
        Cluster x = new Cluster(3, 1, 2);
        int late = x.put(2, 77);
        x.ask(2, 3, 0);
        x.drain(0, 1);
        x.drain(1, 0);
        CHECK.due("tells: its DONE is lost", x.lose(0, 2), 5);
        x.down(1);
        // its host tries at 8, 16, 24 and 32; but for the last time its ROUTE is lost
        x.run(8);
        x.clear(2, 3);
        x.run(1);
        x.puts(0, 60);
        x.run(3);
        CHECK.same("tells: the base", x.copy(0, 0), "1 60 61 61 0 2");
        x.start(1);
        x.run(4);
        x.clear(2, 3);
        CHECK.same("tells: node 1", x.copy(1, 0, 1) + " " + x.copy(1, 0, 2), "60 61");
        x.run(2);
        CHECK.same("tells: both count", x.view(3, 0), "1 0 3 3");
        x.down(0);
        x.run(6);
        x.clear(2, 3);
        x.run(8);
        CHECK.same("tells: node 1 is primary", x.copy(1, 0, 5) + " " + x.request(late, 0) + " " + x.request(late, 3),
                "2 0 4");
        x.run(4);
        CHECK.due("tells: it knows that it is done", x.request(late, 0), 1);
        CHECK.due("tells: and does not do it again", x.copy(1, 0, 2), 61);
    }

    /** "if w is above SHOWN: it SHOWS w" */
    private static void syncShows() {
        Cluster x = new Cluster(2, 1, 2);
        x.down(1);
        x.run(10);
        x.put(0, 0, "cat");
        x.run(3);
        x.refresh(0, 0);
        x.run(3);
        x.start(1);
        x.run(1);
        x.deliver(1, 0);
        x.drain(0, 1);
        CHECK.same("shows: node 1", x.copy(1, 0), "1 0 1 1 1 0");
        CHECK.due("shows: in its index", x.document(1, 0, 2), 0);
        CHECK.same("shows: ACK tells it", x.newest(1, 0), "7 0 1 1 1 0");
    }

    /** "Else: a PRIMARY becomes ROLE 1": a JOIN of long ago makes a new PRIMARY SYNC with the one of before. */
    private static void primaryIsSynced() {
        Cluster x = new Cluster(2, 1, 2);
        x.puts(1, 1);
        x.run(4);
        x.down(0);
        x.run(10);
        CHECK.same("synced: node 1 is primary", x.view(2, 0), "2 1 2 2");
        x.clear(1, 2);
        x.start(0);
        x.drain(0, 2);
        x.drain(2, 0);
        x.deliver(0, 1);
        x.deliver(1, 0);
        x.ticksHeard(3, 2, 0, 1);
        CHECK.same("synced: ACK, and a second JOIN", x.kinds(0, 1), "7 10");
        x.deliver(0, 1);
        x.drain(1, 2);
        CHECK.same("synced: node 0 counts", x.view(2, 0), "2 1 3 3");
        x.clear(2, 1);
        x.drain(2, 0);
        x.down(1);
        x.start(1);
        x.drain(1, 2);
        CHECK.same("synced: HELLO of node 1: the least is primary", x.view(2, 0), "3 0 3 4");
        x.clear(2, 1);
        x.drain(2, 0);
        CHECK.same("synced: node 0 is primary", x.copy(0, 0), "3 0 1 1 0 2");
        x.ticksHeard(8, 2, 1);
        CHECK.same("synced: till it is not heard", x.view(2, 0), "4 1 2 5");
        x.drain(2, 1);
        CHECK.same("synced: node 1 is primary", x.copy(1, 0), "4 0 1 1 0 2");
        CHECK.same("synced: node 0 still is", x.copy(0, 0), "3 0 1 1 0 2");
        CHECK.due("synced: the JOIN of long ago", x.deliver(0, 1), 10);
        CHECK.same("synced: SYNC of TERM 4", x.newest(1, 0), "8 0 4 0 1 1");
        x.clear(0, 1);
        x.drain(1, 0);
        CHECK.same("synced: node 0 follows", x.copy(0, 0), "4 0 1 1 0 1");
        CHECK.same("synced: and answers", x.newest(0, 1), "7 0 4 1 0 0");
        CHECK.due("synced: it has nothing of the others any more", x.other(0, 0, 1, 0), -1);
    }

    // ---- 4 MESSAGES: JOIN, ADD, FAIL, OUT

    /** "STATE 0: it is 1, COUNT is one more, SAW 0. HAS is NONE .. SYNC with it" */
    private static void joins() {
        Cluster x = withOneOutside(2);
        CHECK.same("joins: before", x.other(0, 0, 1), "0 2 0 0");
        CHECK.same("joins: JOIN s l", x.message(1, 0, 0), "10 0 2 0 0 0");
        x.deliver(1, 0);
        CHECK.same("joins: STATE 1", x.other(0, 0, 1), "1 -1 0 1");
        CHECK.same("joins: SYNC", x.kinds(0, 1), "8");
        CHECK.same("joins: s t b u l", x.message(0, 1, 0), "8 0 1 0 2 2");
    }

    /** STATE 1 and 2 stay; COUNT does, too. */
    private static void joinsAgain() {
        Cluster x = withOneOutside(1);
        x.deliver(1, 0);
        x.ticksHeard(3, 2, 0);
        CHECK.same("again: a second JOIN", x.kinds(1, 0), "10");
        x.clear(0, 1);
        x.deliver(1, 0);
        CHECK.same("again: STATE 1", x.other(0, 0, 1), "1 -1 0 1");
        CHECK.same("again: SYNC", x.kinds(0, 1), "8");
        x.deliver(0, 1);
        x.ticksHeard(3, 2, 0);
        x.deliver(1, 0);
        CHECK.same("again: STATE 2", x.other(0, 0, 1), "2 1 0 1");
        CHECK.same("again: a third JOIN", x.kinds(1, 0), "10");
        x.clear(0, 1);
        x.deliver(1, 0);
        CHECK.same("again: STATE 2 stays, HAS does not", x.other(0, 0, 1), "2 -1 0 1");
        CHECK.same("again: SYNC once more", x.kinds(0, 1), "8");
    }

    /** "STATE 4: nothing" */
    private static void joinsWhileLeaving() {
        Cluster x = new Cluster(2, 1, 2);
        x.down(1);
        x.ticksHeard(6, 2, 0);
        x.puts(0, 1);
        x.drain(0, 2);
        x.drain(2, 0);
        x.drain(0, 0);
        x.ticksHeard(2, 2, 0);
        CHECK.same("leaving: the keeper left it out", x.view(2, 0), "1 0 1 2");
        x.clear(2, 0);
        x.ticks(7);
        CHECK.same("leaving: for node 0, too", x.other(0, 0, 1), "4 0 0 0");
        x.start(1);
        x.drain(1, 2);
        x.clear(2, 0);
        x.drain(2, 1);
        CHECK.same("leaving: JOIN", x.kinds(1, 0), "10");
        x.clear(0, 1);
        x.deliver(1, 0);
        CHECK.same("leaving: nothing", x.other(0, 0, 1), "4 0 0 0");
        CHECK.due("leaving: no SYNC", x.link(0, 1), 0);
    }

    /** "SAW 0" */
    private static void joinsAfterItSaw() {
        Cluster x = new Cluster(2, 1, 2);
        x.puts(0, 1);
        x.run(4);
        x.refresh(0, 0);
        x.run(4);
        CHECK.same("saw: in", x.other(0, 0, 1), "3 1 1 0");
        x.ticksHeard(10, 2, 0);
        x.drain(2, 0);
        CHECK.same("saw: out", x.other(0, 0, 1), "0 1 1 0");
        x.drain(2, 1);
        CHECK.due("saw: JOIN", x.deliver(1, 0), 10);
        CHECK.same("saw: joining", x.other(0, 0, 1), "1 -1 0 1");
    }

    /** "HEARD NOW": nine TICKS from then on it is left. */
    private static void joinsWhileTracked() {
        Cluster x = withOneJoining(1);
        x.deliver(1, 0);
        CHECK.due("tracked: STATE 2", x.other(0, 0, 1, 0), 2);
        x.clear(0, 2);
        x.puts(0, 1);
        x.drain(0, 2);
        x.drain(2, 0);
        x.drain(0, 0);
        for (int i = 0; i < 4; i++) {
            x.tick();
            x.clear(0, 1);
        }
        CHECK.due("tracked: JOIN", x.deliver(1, 0), 10);
        for (int i = 0; i < 8; i++) {
            x.tick();
            x.clear(0, 1);
        }
        CHECK.due("tracked: eight ticks later", x.other(0, 0, 1, 0), 2);
        x.tick();
        CHECK.due("tracked: nine", x.other(0, 0, 1, 0), 4);
    }

    private static void joinsOneThatIsNotPrimary() {
        Cluster x = withOneOutside(1);
        x.down(0);
        x.start(0);
        CHECK.due("not primary: JOIN", x.deliver(1, 0), 10);
        CHECK.due("not primary: no SYNC", x.link(0, 1), 0);
        CHECK.due("not primary: it is outside itself", x.copy(0, 0, 5), 0);
    }

    /** "if its VERSION is v, and x is not in MASK: MASK has it, VERSION one more, .. CONFIG is SENT to all" */
    private static void adds() {
        Cluster x = withOneJoining(0);
        x.deliver(1, 0);
        x.clear(2, 1);
        int before = x.told(5);
        CHECK.due("adds: ADD", x.deliver(0, 2), 11);
        CHECK.same("adds: the keeper's view", x.view(2, 0), "1 0 3 3");
        CHECK.due("adds: a record", x.told(5) - before, 1);
        CHECK.same("adds: CONFIG s t p m v", x.newest(2, 0), "14 0 1 0 3 3");
        CHECK.same("adds: to all with copies", x.newest(2, 1), "14 0 1 0 3 3");
        x.drain(2, 0);
        x.drain(2, 1);
        CHECK.same("adds: STATE 3", x.other(0, 0, 1), "3 0 0 1");
        CHECK.due("adds: ROLE 1", x.copy(1, 0, 5), 1);
    }

    /** "else CONFIG to from" */
    private static void addsTooLate() {
        Cluster x = withOneJoining(0);
        x.deliver(1, 0);
        x.ticks(3);
        x.clear(2, 1);
        CHECK.due("late: ADD", x.deliver(0, 2), 11);
        x.clear(2, 0);
        x.clear(2, 1);
        int before = x.told(5);
        // BEATS and a second ADD with the VERSION of before; CONFIG for the BEAT comes, too
        String left = x.kinds(0, 2);
        CHECK.same("late: what is left", left, "16 11");
        x.deliver(0, 2);
        x.clear(2, 0);
        CHECK.due("late: a second ADD", x.deliver(0, 2), 11);
        CHECK.same("late: the view stays", x.view(2, 0), "1 0 3 3");
        CHECK.due("late: no record", x.told(5), before);
        CHECK.same("late: CONFIG to who sent it", x.kinds(2, 0), "14");
        CHECK.due("late: to no other", x.link(2, 1), 0);
    }

    /** "if its VERSION is v": another change came first, though x is not in MASK. */
    private static void addsOfAnOldVersion() {
        Cluster x = new Cluster(3, 1, 3);
        x.down(2);
        x.run(10);
        x.start(2);
        x.drain(2, 3);
        x.drain(3, 2);
        x.deliver(2, 0);
        x.deliver(0, 2);
        x.drain(0, 3);
        x.drain(1, 3);
        x.ticksHeard(6, 3, 0, 2);
        x.clear(3, 0);
        x.deliver(2, 0);
        CHECK.same("old version: ADD", x.newest(0, 3), "11 0 1 2 2 0");
        x.ticks(2);
        CHECK.same("old version: node 1 is dead", x.view(3, 0), "1 0 1 3");
        x.clear(3, 0);
        x.clear(3, 2);
        CHECK.due("old version: ADD of VERSION 2", x.deliver(0, 3), 11);
        CHECK.same("old version: adds nobody", x.view(3, 0), "1 0 1 3");
        CHECK.same("old version: CONFIG to who sent it", x.message(3, 0, 0), "14 0 1 0 1 3");
        CHECK.due("old version: to no other", x.link(3, 2), 0);
    }

    /** Node 1 is UP and heard by THE KEEPER, but gets no REPL: node 0 leaves it out at the ninth TICK. */
    private static Cluster withOneLeaving() {
        Cluster x = new Cluster(2, 1, 2);
        x.puts(0, 1);
        x.ask(0, 2, 0);
        x.ticksHeard(8, 2, 0, 1);
        x.drain(2, 0);
        x.clear(0, 0);
        x.tick();
        x.clear(0, 1);
        return x;
    }

    /** "if x is in MASK and not from: MASK without it, VERSION one more, .. then OUT s t x e is SENT back" */
    private static void fails() {
        Cluster x = withOneLeaving();
        CHECK.same("fails: FAIL s t x e", x.newest(0, 2), "12 0 1 1 0 0");
        x.drain(0, 2);
        CHECK.same("fails: the keeper's view", x.view(2, 0), "1 0 1 2");
        CHECK.same("fails: CONFIG, then OUT", x.kinds(2, 0), "14 13");
        CHECK.same("fails: OUT s t x e", x.newest(2, 0), "13 0 1 1 0 0");
        CHECK.same("fails: CONFIG to the other one", x.newest(2, 1), "14 0 1 0 1 2");
    }

    private static void failsOneThatIsOut() {
        Cluster x = withOneLeaving();
        x.drain(0, 2);
        x.clear(2, 0);
        x.clear(2, 1);
        int before = x.told(5);
        x.ticksHeard(8, 2, 1);
        x.clear(2, 0);
        x.clear(2, 1);
        while (x.message(0, 2, 0, 0) == 16) {
            x.lose(0, 2);
        }
        CHECK.same("is out: nothing yet but a ROUTE", x.kinds(0, 2), "1");
        x.clear(0, 2);
        x.tick();
        CHECK.same("is out: BEAT, FAIL again", x.kinds(0, 2), "12 16");
        x.deliver(0, 2);
        CHECK.same("is out: OUT alone", x.kinds(2, 0), "13");
        CHECK.same("is out: the view stays", x.view(2, 0), "1 0 1 2");
        CHECK.due("is out: no record", x.told(5), before);
        CHECK.due("is out: nothing to the other one", x.link(2, 1), 0);
    }

    /** "when its VIEW has this TERM and primary from" */
    private static void formerPrimary() {
        Cluster x = withOneLeaving();
        CHECK.same("former: FAIL of node 0", x.newest(0, 2), "12 0 1 1 0 0");
        x.ticksHeard(8, 2, 1);
        CHECK.same("former: node 1 is primary", x.view(2, 0), "2 1 2 2");
        x.clear(2, 0);
        while (x.message(0, 2, 0, 0) != 12) {
            x.lose(0, 2);
        }
        x.deliver(0, 2);
        CHECK.same("former: FAIL is nothing", x.view(2, 0), "2 1 2 2");
        CHECK.due("former: no OUT", x.link(2, 0), 0);
        Cluster y = new Cluster(3, 1, 3);
        y.down(2);
        y.run(10);
        y.start(2);
        y.drain(2, 3);
        y.drain(3, 2);
        y.deliver(2, 0);
        y.deliver(0, 2);
        y.clear(0, 3);
        y.deliver(2, 0);
        CHECK.same("former: ADD of node 0", y.kinds(0, 3), "11");
        y.ticksHeard(8, 3, 1, 2);
        CHECK.same("former: node 1 is primary, node 2 not in", y.view(3, 0), "2 1 2 3");
        y.clear(3, 0);
        CHECK.due("former: ADD", y.deliver(0, 3), 11);
        CHECK.same("former: is nothing", y.view(3, 0), "2 1 2 3");
        CHECK.due("former: no CONFIG", y.link(3, 0), 0);
    }

    /** "when its VIEW has this TERM": a FAIL of TERM 2 of one that is primary again, of TERM 4. */
    private static void primaryOfAnotherTerm() {
        Cluster x = new Cluster(2, 1, 2);
        x.down(0);
        x.ticksHeard(8, 2, 1);
        x.drain(2, 1);
        x.start(0);
        x.drain(0, 2);
        x.drain(2, 0);
        x.deliver(0, 1);
        x.deliver(1, 0);
        x.deliver(0, 1);
        x.drain(1, 2);
        x.drain(2, 0);
        x.drain(2, 1);
        CHECK.same("term: node 1 of TERM 2, with node 0", x.view(1, 0) + ", " + x.other(1, 0, 0), "2 1 3 3, 3 0 0 1");
        x.put(0, 5);
        x.ask(0, 2, 1);
        x.ticksHeard(8, 2, 0, 1);
        x.tick();
        x.clear(1, 0);
        CHECK.same("term: FAIL of TERM 2", x.message(1, 2, 0), "12 0 2 0 1 0");
        x.ticksHeard(8, 2, 0);
        CHECK.same("term: node 0 of TERM 3", x.view(2, 0), "3 0 1 4");
        x.drain(2, 0);
        x.drain(2, 1);
        x.clear(0, 1);
        while (x.message(1, 0, 0, 0) != 10) {
            x.lose(1, 0);
        }
        x.deliver(1, 0);
        x.drain(0, 1);
        x.drain(1, 0);
        x.drain(0, 2);
        CHECK.same("term: with node 1", x.view(2, 0), "3 0 3 5");
        x.down(2);
        x.start(2);
        x.ticks(8);
        CHECK.same("term: node 1 of TERM 4", x.view(2, 0), "4 1 2 6");
        x.clear(2, 1);
        CHECK.due("term: the FAIL of TERM 2", x.deliver(1, 2), 12);
        CHECK.due("term: is nothing", x.link(2, 1), 0);
        CHECK.same("term: nor is the view another", x.view(2, 0), "4 1 2 6");
    }

    /** A PUT that comes to node 1 is an ACT of node 0, and node 1 gets none of its REPLS for nine TICKS. */
    private static void leaveBehind(Cluster x) {
        x.clear(2, 1);
        x.clear(1, 2);
        x.put(1, 9);
        x.deliver(1, 2);
        x.deliver(2, 1);
        x.clear(0, 1);
        x.drain(1, 0);
        for (int i = 0; i < 9; i++) {
            x.tick();
            x.clear(0, 1);
        }
    }

    /** "if x's STATE is 4 and its COUNT e" */
    private static void outOfAnotherCount() {
        Cluster x = withOneLeaving();
        x.drain(0, 2);
        x.ticksHeard(9, 2, 0, 1);
        CHECK.same("count: OUT, a MAP, OUT again, and CONFIG at each BEAT", x.kinds(2, 0), "14 13 14 14 14 14 2 13 14");
        x.deliver(2, 0, 2);
        CHECK.same("count: STATE 0", x.other(0, 0, 1), "0 0 0 0");
        for (int i = 0; i < 5; i++) {
            x.lose(2, 0);
        }
        x.drain(2, 1);
        x.clear(0, 1);
        CHECK.due("count: JOIN", x.deliver(1, 0), 10);
        x.deliver(0, 1);
        x.drain(1, 0);
        CHECK.same("count: STATE 2, COUNT 1", x.other(0, 0, 1), "2 1 0 1");
        leaveBehind(x);
        CHECK.same("count: STATE 4, COUNT 1", x.other(0, 0, 1), "4 1 0 1");
        CHECK.same("count: OUT s t x e", x.message(2, 0, 0), "13 0 1 1 0 0");
        x.deliver(2, 0);
        CHECK.same("count: of COUNT 0 is nothing", x.other(0, 0, 1), "4 1 0 1");
    }

    /** FAIL and OUT of node 2, which joined once: all their numbers differ. */
    private static void outOfTheThird() {
        Cluster x = new Cluster(3, 1, 3);
        x.down(2);
        x.run(10);
        x.start(2);
        x.run(6);
        CHECK.same("third: in again", x.view(3, 0) + ", " + x.other(0, 0, 2), "1 0 7 3, 3 0 0 1");
        x.clear(0, 3);
        x.puts(0, 1);
        x.drain(0, 3);
        x.drain(3, 0);
        x.drain(0, 0);
        x.drain(0, 1);
        x.drain(1, 0);
        x.ticksHeard(8, 3, 0, 1, 2);
        x.tick();
        CHECK.same("third: FAIL s t x e", x.newest(0, 3), "12 0 1 2 1 0");
        x.drain(0, 3);
        CHECK.same("third: the view", x.view(3, 0), "1 0 3 4");
        CHECK.same("third: OUT s t x e", x.newest(3, 0), "13 0 1 2 1 0");
        CHECK.same("third: STATE 4", x.other(0, 0, 2), "4 0 0 1");
        x.drain(3, 0);
        CHECK.same("third: STATE 0", x.other(0, 0, 2), "0 0 0 1");
        CHECK.same("third: node 1 stays", x.other(0, 0, 1), "3 1 0 0");
        CHECK.due("third: sure", x.copy(0, 0, 3), 1);
    }

    // ---- 4 MESSAGES: CONFIG

    /** "if v is not above the VIEW's VERSION: nothing" */
    private static void configTwice() {
        Cluster x = withOneOutside(0);
        x.clear(1, 0);
        x.down(1);
        x.start(1);
        x.tick();
        x.tick();
        CHECK.same("twice: HELLO and BEAT", x.kinds(1, 2), "15 16");
        x.deliver(1, 2, 2);
        CHECK.same("twice: two CONFIGS", x.kinds(2, 1), "14 14");
        x.deliver(2, 1);
        CHECK.same("twice: JOIN", x.kinds(1, 0), "10");
        x.deliver(2, 1);
        CHECK.same("twice: no second one", x.kinds(1, 0), "10");
    }

    /** "one that is not in m: STATE 3 becomes 0; SETTLE" */
    private static void configOfMask() {
        Cluster x = new Cluster(3, 1, 3);
        x.puts(0, 1);
        x.ask(0, 3, 0);
        x.deliver(0, 1);
        x.deliver(1, 0);
        x.clear(0, 2);
        CHECK.due("mask: node 2 has none", x.copy(0, 0, 3), 0);
        x.ticksHeard(8, 3, 0, 1);
        CHECK.same("mask: without 2", x.view(3, 0), "1 0 3 2");
        x.drain(3, 0);
        CHECK.same("mask: STATE 0", x.other(0, 0, 2), "0 0 0 0");
        CHECK.same("mask: STATE 3 stays", x.other(0, 0, 1), "3 1 0 0");
        CHECK.due("mask: sure", x.copy(0, 0, 3), 1);
        CHECK.due("mask: primary as before", x.copy(0, 0, 5), 2);
        CHECK.due("mask: of the same TERM", x.copy(0, 0, 0), 1);
    }

    /** "Else, if t is above TERM: it BECOMES PRIMARY of t; else ROLE 1" */
    private static void configOfOldTerm() {
        Cluster x = new Cluster(2, 1, 2);
        x.down(0);
        x.start(0);
        CHECK.due("old: HELLO is lost", x.lose(0, 2), 15);
        x.ticks(2);
        x.deliver(0, 2);
        CHECK.same("old: its BEAT knows no VERSION", x.message(2, 0, 0), "14 0 1 0 3 1");
        x.deliver(2, 0);
        CHECK.same("old: primary by its view, of a TERM that it had", x.view(0, 0), "1 0 3 1");
        CHECK.same("old: so it follows", x.copy(0, 0), "1 0 0 0 0 1");
        x.ticks(2);
        x.deliver(0, 2);
        CHECK.same("old: its next BEAT tells no TERM", x.view(2, 0), "2 0 3 2");
        x.deliver(2, 0);
        CHECK.same("old: now it is", x.copy(0, 0), "2 0 0 0 0 2");
    }

    /** "If p is another one: nothing WAITS; if this node is in m: ROLE 1; else: ROLE 0; JOIN s LAST is SENT to p" */
    private static void configOfAnother() {
        Cluster x = new Cluster(3, 1, 3);
        x.puts(0, 1);
        x.run(4);
        x.clear(0, 3);
        x.ticksHeard(9, 3, 1, 2);
        CHECK.same("another: node 1", x.view(3, 0), "2 1 6 2");
        x.drain(3, 2);
        CHECK.same("another: node 2 is in", x.copy(2, 0), "1 0 1 0 0 1");
        CHECK.due("another: it joins nobody", x.link(2, 1), 0);
        x.drain(3, 0);
        CHECK.same("another: node 0 is not", x.copy(0, 0), "1 0 1 1 0 0");
        CHECK.same("another: JOIN s l", x.newest(0, 1), "10 0 1 0 0 0");
        CHECK.same("another: its view", x.view(0, 0), "2 1 6 2");
        CHECK.due("another: it has nothing of the others", x.other(0, 0, 1, 0), -1);
    }

    /** "1 and 2 become 3" */
    private static void configMakesIn() {
        Cluster x = withOneJoining(0);
        x.deliver(1, 0);
        CHECK.same("in: STATE 2", x.other(0, 0, 1), "2 0 0 1");
        x.drain(0, 2);
        x.deliver(2, 0);
        CHECK.same("in: STATE 3, the rest stays", x.other(0, 0, 1), "3 0 0 1");
        CHECK.due("in: no SYNC", x.link(0, 1), 0);
    }

    /** STATE 4 stays, though it be in m. */
    private static void configWhileLeaving() {
        Cluster x = withOneJoining(0);
        x.deliver(1, 0);
        x.drain(0, 2);
        CHECK.same("leaving: the keeper has added it", x.view(2, 0), "1 0 3 3");
        CHECK.same("leaving: its CONFIG is put off", x.message(2, 0, 0), "14 0 1 0 3 3");
        leaveBehind(x);
        CHECK.same("leaving: STATE 4", x.other(0, 0, 1), "4 0 0 1");
        x.deliver(2, 0);
        CHECK.same("leaving: its view has it", x.view(0, 0), "1 0 3 3");
        CHECK.same("leaving: STATE 4 stays", x.other(0, 0, 1), "4 0 0 1");
        CHECK.due("leaving: it counts", x.copy(0, 0, 3), 0);
    }

    // ---- 4 MESSAGES: SHOW, SHOWTO

    private static void showOfNothing() {
        Cluster x = new Cluster(2, 1, 2);
        x.refresh(1, 0);
        x.ask(1, 2, 0);
        CHECK.same("nothing: DONE at once", x.kinds(0, 1), "5");
        CHECK.due("nothing: no record", x.told(5), 0);
    }

    /** "if r WAITS: nothing" */
    private static void showTwice() {
        Cluster x = new Cluster(2, 1, 2);
        x.puts(0, 1);
        x.run(4);
        int r = x.refresh(0, 0);
        x.drain(0, 2);
        x.drain(2, 0);
        x.deliver(0, 0);
        CHECK.same("twice: SHOWTO s t v", x.newest(0, 1), "18 0 1 1 0 0");
        x.ticksHeard(8, 2, 0, 1);
        CHECK.due("twice: attempt 1", x.request(r, 3), 1);
        x.drain(2, 0);
        CHECK.same("twice: SHOW", x.kinds(0, 0), "17");
        x.clear(0, 1);
        x.deliver(0, 0);
        CHECK.due("twice: nothing to the other one", x.link(0, 1), 0);
        CHECK.due("twice: nothing back", x.link(0, 0), 0);
        x.ticks(1);
        x.run(16);
        CHECK.due("twice: done once the other one is out", x.request(r, 0), 1);
    }

    /** "if 20 do: NO r a" */
    private static void showTwenty() {
        Cluster x = new Cluster(2, 1, 2);
        x.puts(0, 1);
        x.run(4);
        x.clear(0, 2);
        for (int i = 0; i < 21; i++) {
            x.refresh(0, 0);
        }
        x.deliver(0, 2, 21);
        x.drain(2, 0);
        x.deliver(0, 0, 20);
        CHECK.due("20: none is answered", x.link(0, 0), 1);
        CHECK.due("20: SHOWTO each time", x.link(0, 1), 20);
        x.deliver(0, 0);
        CHECK.same("20: NO r a", x.kinds(0, 0) + ": " + x.newest(0, 0), "4: 4 21 0 0 0 0");
        CHECK.due("20: no SHOWTO", x.link(0, 1), 20);
        x.deliver(0, 1);
        x.deliver(1, 0);
        CHECK.due("20: all 20 are done", x.link(0, 0), 21);
        CHECK.same("20: in order", x.message(0, 0, 1, 1) + " " + x.message(0, 0, 20, 1), "1 20");
    }

    /** "if that is above SHOWN, it SHOWS that; then, in any case, SHOWTO .. to each with .. SAW below it" */
    private static void showOfWhatIsShown() {
        Cluster x = new Cluster(3, 1, 3);
        x.puts(0, 1);
        x.run(4);
        x.refresh(0, 0);
        x.drain(0, 3);
        x.drain(3, 0);
        x.deliver(0, 0);
        x.deliver(0, 1);
        x.deliver(1, 0);
        CHECK.same("is shown: node 1 saw it", x.other(0, 0, 1) + ", " + x.other(0, 0, 2), "3 1 1 0, 3 1 0 0");
        int before = x.told(5);
        x.refresh(0, 0);
        x.drain(0, 3);
        x.drain(3, 0);
        x.deliver(0, 0);
        CHECK.due("is shown: no record", x.told(5), before);
        CHECK.due("is shown: no SHOWTO to node 1", x.link(0, 1), 0);
        CHECK.same("is shown: a second one to node 2", x.kinds(0, 2), "18 18");
        CHECK.due("is shown: both wait", x.link(0, 0), 0);
        x.deliver(0, 2);
        x.deliver(2, 0);
        CHECK.same("is shown: both are done", x.kinds(0, 0), "5 5");
    }

    /** "Of others: NO r a is SENT back." */
    private static void showToOthers() {
        Cluster x = new Cluster(3, 1, 2);
        x.refresh(2, 0);
        x.deliver(2, 3);
        x.deliver(3, 2);
        x.down(0);
        x.start(0);
        x.deliver(2, 0);
        CHECK.same("others: NO", x.message(0, 2, 0), "4 0 0 0 0 0");
        x.deliver(0, 2);
        CHECK.due("others: which changes nothing", x.request(0, 0), 0);
    }

    /** "if LAST is below v: nothing" */
    private static void showToShort() {
        Cluster x = withOneJoining(0);
        x.puts(0, 1);
        x.drain(0, 2);
        x.drain(2, 0);
        x.drain(0, 0);
        x.deliver(1, 0);
        CHECK.same("short: it joins", x.other(0, 0, 1), "1 0 0 1");
        x.refresh(0, 0);
        x.drain(0, 2);
        x.drain(2, 0);
        x.drain(0, 0);
        CHECK.same("short: SHOWTO", x.newest(0, 1), "18 0 1 1 0 0");
        x.deliver(0, 1);
        CHECK.due("short: no ACK", x.link(1, 0), 0);
        CHECK.same("short: nothing", x.copy(1, 0), "1 0 0 0 0 0");
    }

    /** "SURE is the greater of it and v; if v is above SHOWN, it SHOWS v; ACK is SENT back" */
    private static void showToTwice() {
        Cluster x = new Cluster(2, 1, 2);
        x.puts(0, 1);
        x.run(4);
        CHECK.same("twice: it knows nothing of sure", x.copy(1, 0), "1 0 1 0 0 1");
        for (int i = 0; i < 2; i++) {
            x.refresh(0, 0);
            x.drain(0, 2);
            x.drain(2, 0);
            x.drain(0, 0);
        }
        CHECK.same("twice: two of them", x.kinds(0, 1), "18 18");
        int before = x.told(5);
        x.deliver(0, 1);
        CHECK.same("twice: sure and shown", x.copy(1, 0), "1 0 1 1 1 1");
        CHECK.due("twice: a record", x.told(5) - before, 1);
        x.deliver(0, 1);
        CHECK.due("twice: no second one", x.told(5) - before, 1);
        CHECK.same("twice: two ACKS", x.kinds(1, 0) + ": " + x.newest(1, 0), "7 7: 7 0 1 1 1 0");
    }

    /** "to a node that is DOWN: lost" */
    private static void toOneThatIsDown() {
        Cluster x = new Cluster(2, 1, 2);
        x.puts(0, 1);
        x.ask(0, 2, 0);
        x.down(1);
        CHECK.due("down: REPL", x.deliver(0, 1), 6);
        x.start(1);
        CHECK.due("down: it was lost", x.copy(1, 0, 2), 0);
        CHECK.due("down: no ACK", x.link(1, 0), 0);
        x.down(2);
        CHECK.due("down: HELLO to the keeper", x.deliver(1, 2), 15);
        x.start(2);
        CHECK.due("down: was lost, too", x.link(2, 1), 0);
    }
}
