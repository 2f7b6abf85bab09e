/** The edges that the document's terms 7, SEARCH, name: each sentence by itself. */
public final class SearchEdgesTest {
    private static final Check CHECK = new Check();

    public static void main(String[] args) {
        rowsOfTexts();
        twelveOctets();
        endings();
        noWords();
        placesAndLength();
        emptyText();
        segmentsUpToFour();
        segmentsWithoutLiveOnes();
        deadSegmentCounts();
        lastDocumentGoes();
        shownAgain();
        readSegment();
        numbersOfSevenBits();
        manyPlaces();
        wordsByOctets();
        documentsByNumbers();
        octetsByTurns();
        faultAtOnce();
        faultAtTheEnd();
        faultInQuotes();
        faultBehindAUnit();
        sixClauses();
        fourRows();
        sixtyOctets();
        twentyFourRows();
        draftOfBefore();
        questionOctets();
        blanks();
        clausesLeftOut();
        starUnits();
        starOfTwelve();
        quotedUnits();
        quotedPlaces();
        foundOrNot();
        logs();
        scoreOfOne();
        scoreOfMany();
        scoreOfRows();
        scoreIsCut();
        wordsThatAreNearlyAlike();
        scoreOverShards();
        likeScores();
        nothingThere();
        eightContexts();
        leastFreeContext();
        contextIsGone();
        contextOfAnother();
        contextKeepsItsDocuments();
        openOutsideTheMask();
        CHECK.end("SearchEdgesTest");
    }

    /** One node; these texts are documents 0, 1, .., and are SHOWN. */
    private static Cluster with(String... texts) {
        Cluster x = new Cluster(1, 1, 1);
        for (int d = 0; d < texts.length; d++) {
            x.put(0, d, texts[d]);
        }
        show(x);
        return x;
    }

    private static void show(Cluster x) {
        x.run(3);
        x.refresh(0, 0);
        x.run(3);
    }

    /** What a FIND of ten tells. */
    private static String found(Cluster x, String question) {
        int r = x.find(0, 10, question);
        if (r < 0) {
            return "fault " + (-2 - r);
        }
        x.run(5);
        return x.request(r, 0) == 1 ? x.hits(r) : "not done";
    }

    /** The documents that a FIND tells. */
    private static String documents(Cluster x, String question) {
        return found(x, question).replaceAll(":\\d+", "");
    }

    /** The OCTETS of a SEGMENT of document 0 alone, with one WORD once. */
    private static String octetsOf(String word, int place) {
        StringBuilder octets = new StringBuilder("1 0 1 1 0 " + word.length());
        for (char o : word.toCharArray()) {
            octets.append(' ').append((int) o);
        }
        return octets.append(" 1 0 1 ").append(place).toString();
    }

    private static void word(String row, String word) {
        CHECK.same(row + " is " + word, with(row).segment(0, 0, 0), octetsOf(word, 0));
    }

    // ---- texts made WORDS

    /** "rows of letters and figures as long as can be; letters become small" */
    private static void rowsOfTexts() {
        word("AZaz09", "azaz09");
        word("/0:", "0");
        word(":9/", "9");
        word("@B[", "b");
        word("`z{", "z");
        CHECK.same("octets 32 .. 126 that are neither", with(" !\"#$%&'()*+,-./:;<=>?@[\\]^_`{|}~").segment(0, 0, 0),
                "1 0 0 0");
    }

    /** "of more than 12 the first 12" */
    private static void twelveOctets() {
        word("abcdefghijkl", "abcdefghijkl");
        word("abcdefghijklm", "abcdefghijkl");
        word("0123456789012345678901234567890123456789", "012345678901");
        word("abcdefghijks9", "abcdefghijk");
        word("abcdefghijk9s", "abcdefghijk9");
    }

    private static void endings() {
        word("ties", "tie");
        word("flies", "fly");
        word("abcdefghiies", "abcdefghiy");
        word("abcdefghijies", "abcdefghijie");
        word("sling", "sling");
        word("string", "str");
        word("STRING", "str");
        word("abcdefghiing", "abcdefghi");
        word("used", "used");
        word("shred", "shr");
        word("gas", "gas");
        word("cats", "cat");
        word("boss", "boss");
        word("abss", "abss");
        word("ingeds", "inged");
        word("edings", "eding");
        word("siesing", "sies");
        word("c4ts", "c4ts");
        word("c0ts", "c0ts");
        word("c9ts", "c9ts");
        word("4flies", "4flies");
        word("1string", "1string");
        word("shred2", "shred2");
    }

    /** "What is a, an, of, the then is none, but counts as a place." */
    private static void noWords() {
        for (String none : new String[] {"a", "A", "an", "of", "the", "The", "thes", "theed", "theing", ". ,"}) {
            Cluster x = with(none);
            CHECK.same(none + " is none", x.segment(0, 0, 0), "1 0 0 0");
        }
        for (String some : new String[] {"at", "in", "on", "if", "oh", "b", "she", "toe", "thy", "tha", "o"}) {
            word(some, some);
        }
        word("ans", "ans");
        word("ofs", "ofs");
        word("aing", "aing");
        word("anies", "any");
        word("theies", "they");
        word("a1", "a1");
        word("thee", "thee");
        CHECK.same("a place", with("the cat").segment(0, 0, 0), octetsOf("cat", 1));
    }

    /** "The PLACE of a WORD in its text: how many such rows come before it." */
    private static void placesAndLength() {
        // b at 1 and 3, c at 4: a, of are none, but have places
        CHECK.same("places", with("a b--of b.c").segment(0, 0, 0), "1 0 3 2 0 1 98 1 0 2 1 2 0 1 99 1 0 1 4");
        // 20 rows are the most: the last one at 19
        CHECK.same("the last place", with("a a a a a a a a a a a a a a a a a a a b").segment(0, 0, 0),
                octetsOf("b", 19));
        CHECK.same("twenty words", with("b b b b b b b b b b b b b b b b b b b b").segment(0, 0, 0),
                "1 0 20 1 0 1 98 1 0 20 0 1 1 1 1 1 1 1 1 1 1 1 1 1 1 1 1 1 1 1");
    }

    private static void emptyText() {
        Cluster x = with("", "cat");
        CHECK.same("empty: a document of LENGTH 0", x.segment(0, 0, 0), "2 0 0 1 1 1 0 3 99 97 116 1 1 1 0");
    }

    // ---- SEGMENTS

    private static void shown(Cluster x, int document, String text) {
        x.put(0, document, text);
        show(x);
    }

    /** The documents and the LIVE ones of each SEGMENT. */
    private static String segments(Cluster x) {
        StringBuilder all = new StringBuilder();
        int many = x.copy(0, 0, 6);
        for (int g = 0; g < many; g++) {
            all.append(g == 0 ? "" : " ").append(x.segment(0, 0, g, 0)).append("/").append(x.segment(0, 0, g, 1));
        }
        return all.toString();
    }

    /** "SEGMENTS, at most 4"; "if there are 5 then ..: all LIVE documents become one instead" */
    private static void segmentsUpToFour() {
        Cluster x = new Cluster(1, 1, 1);
        CHECK.same("four: none", segments(x), "");
        for (int d = 0; d < 4; d++) {
            shown(x, d, "");
        }
        CHECK.same("four: four", segments(x), "1/1 1/1 1/1 1/1");
        shown(x, 4, "");
        CHECK.same("four: a fifth makes one", segments(x), "5/5");
        shown(x, 5, "");
        CHECK.same("four: and so on", segments(x), "5/5 1/1");
    }

    /** "are not LIVE where they were"; "SEGMENTS without LIVE documents are gone" */
    private static void segmentsWithoutLiveOnes() {
        Cluster x = with("", "");
        shown(x, 2, "");
        CHECK.same("live: two", segments(x), "2/2 1/1");
        shown(x, 0, "");
        CHECK.same("live: one of the first is not", segments(x), "2/1 1/1 1/1");
        shown(x, 2, "");
        CHECK.same("live: the second is gone, for it had one alone", segments(x), "2/1 1/1 1/1");
        shown(x, 1, "");
        CHECK.same("live: the first is gone", segments(x), "1/1 1/1 1/1");
        CHECK.same("live: which they are", x.document(0, 0, 2) + " " + x.document(0, 2, 2) + " "
                + x.document(0, 1, 2), "5 7 9");
    }

    /** "(any without LIVE documents counted, too)" */
    private static void deadSegmentCounts() {
        Cluster x = new Cluster(1, 1, 1);
        for (int d = 0; d < 4; d++) {
            shown(x, d, "");
        }
        shown(x, 2, "");
        CHECK.same("dead: it counts as the fifth", segments(x), "4/4");
        Cluster y = new Cluster(1, 1, 1);
        for (int d = 0; d < 4; d++) {
            shown(y, d, "");
        }
        y.drop(0, 2);
        show(y);
        CHECK.same("dead: a DROP makes no new one", segments(y), "1/1 1/1 1/1");
    }

    /** "those that there are become a new SEGMENT, if there are any" */
    private static void lastDocumentGoes() {
        Cluster x = with("cat");
        x.drop(0, 0);
        show(x);
        CHECK.same("last: no segment", segments(x), "");
        CHECK.due("last: not in the index", x.document(0, 0, 2), -1);
        x.drop(0, 0);
        show(x);
        CHECK.same("last: none again", segments(x), "");
        CHECK.due("last: shown", x.copy(0, 0, 4), 3);
    }

    /** A document that came and went, or was put and put again, between two REFRESHES. */
    private static void shownAgain() {
        Cluster x = with("cat");
        x.put(0, 1, "dog");
        x.drop(0, 1);
        x.put(0, 0, "one");
        x.put(0, 0, "two");
        show(x);
        CHECK.same("again: one new segment", segments(x), "1/1");
        CHECK.due("again: the latest", x.document(0, 0, 2), 5);
        CHECK.same("again: and it is found", documents(x, "one two cat dog"), "0");
        x.drop(0, 0);
        x.put(0, 0, "two");
        show(x);
        CHECK.due("again: the same text of another request is another", x.document(0, 0, 2), 9);
    }

    /** "A COPY that was READ has one SEGMENT of all documents that there are at its SHOWN (none without any)." */
    private static void readSegment() {
        Cluster x = new Cluster(1, 1, 1);
        for (int d = 0; d < 3; d++) {
            shown(x, d, "");
        }
        shown(x, 0, "");
        x.put(0, 9);
        x.run(3);
        CHECK.same("read: before", segments(x), "1/1 1/1 1/1");
        x.down(0);
        x.start(0);
        CHECK.same("read: one", segments(x), "3/3");
        CHECK.due("read: what was not shown is not there", x.document(0, 9, 2), -1);
        Cluster y = with("cat");
        y.drop(0, 0);
        show(y);
        y.down(0);
        y.start(0);
        CHECK.same("read: none", segments(y), "");
    }

    /** "All numbers but u1 by 7 bits an octet, the lowest first, 128 more where more comes." */
    private static void numbersOfSevenBits() {
        for (int words = 127; words <= 129; words++) {
            Cluster x = new Cluster(1, 1, 1);
            int made = 0;
            for (int d = 0; d < 10; d++) {
                StringBuilder text = new StringBuilder();
                for (int i = 0; i < 13 && made < words; i++) {
                    text.append((char) ('b' + made / 10)).append(made % 10).append(i == 12 ? "" : " ");
                    made++;
                }
                x.put(0, d, text.toString());
            }
            show(x);
            // how many documents, two octets of each, then how many WORDS
            String due = words < 128 ? "127 0" : (words == 128 ? "128 1" : "129 1");
            CHECK.same(words + " words", x.octet(0, 0, 0, 21) + " " + x.octet(0, 0, 0, 22), due);
        }
        Cluster y = new Cluster(1, 1, 1);
        for (int d = 0; d < 20; d++) {
            StringBuilder text = new StringBuilder();
            for (int i = 13 * d; i < 13 * d + 13 && i < 255; i++) {
                text.append((char) ('a' + i / 10)).append(i % 10).append(i == 13 * d + 12 ? "" : " ");
            }
            y.put(0, d, text.toString());
        }
        show(y);
        CHECK.same("255 words", y.octet(0, 0, 0, 41) + " " + y.octet(0, 0, 0, 42), "255 1");
    }

    /** 70 documents with as many WORDS as a text can have. */
    private static void manyPlaces() {
        Cluster x = new Cluster(1, 1, 1);
        for (int d = 0; d < 70; d++) {
            x.put(0, d, "b b b b b b b b b b b b b b b b b b b b");
            if (d == 40) {
                x.run(3);
            }
        }
        show(x);
        // 1 + 70 * 2, 1, 3, 1, 70 * (2 + 20)
        CHECK.due("places: octets", x.segment(0, 0, 0, 2), 1 + 140 + 1 + 3 + 1 + 70 * 22);
        CHECK.due("places: the last octet", x.octet(0, 0, 0, 1685), 1);
    }

    /** "by their octets (shorter ones first, where one begins the other)" */
    private static void wordsByOctets() {
        CHECK.same("words", with("cb ca1 caa c 9 ca z0").segment(0, 0, 0),
                "1 0 7 7 0 1 57 1 0 1 4 0 1 99 1 0 1 3 1 1 97 1 0 1 5 2 1 49 1 0 1 1 2 1 97 1 0 1 2 1 1 98 1 0 1 0"
                + " 0 2 122 48 1 0 1 6");
        CHECK.same("words: alike with figures", with("b0c b0d b00").segment(0, 0, 0),
                "1 0 3 3 0 3 98 48 48 1 0 1 2 2 1 99 1 0 1 0 2 1 100 1 0 1 1");
        CHECK.same("words: alike to the twelfth octet", with("abcdefghijkl abcdefghijkm").segment(0, 0, 0),
                "1 0 2 2 0 12 97 98 99 100 101 102 103 104 105 106 107 108 1 0 1 0 11 1 109 1 0 1 1");
    }

    /** "its number less the one before"; "its place in the SEGMENT's row (from 0 on) less the one before" */
    private static void documentsByNumbers() {
        Cluster x = new Cluster(1, 1, 1);
        x.put(0, 99, "b");
        x.put(0, 7, "c");
        x.put(0, 0, "b b");
        show(x);
        CHECK.same("numbers", x.segment(0, 0, 0), "3 0 2 7 1 92 1 2 0 1 98 2 0 2 0 1 2 1 0 0 1 99 1 1 1 0");
        CHECK.same("numbers: places in the row", with("b", "b", "c", "b").segment(0, 0, 0),
                "4 0 1 1 1 1 1 1 1 2 0 1 98 3 0 1 0 1 1 0 2 1 0 0 1 99 1 2 1 0");
    }

    /** Octets of one SEGMENT, then of another, and of those that moved up when one went. */
    private static void octetsByTurns() {
        Cluster x = new Cluster(1, 1, 1);
        for (int d = 0; d < 4; d++) {
            shown(x, d, "w" + d);
        }
        String[] due = new String[6];
        for (int d = 0; d < 6; d++) {
            due[d] = "1 " + d + " 1 1 0 2 119 " + ('0' + d) + " 1 0 1 0";
        }
        for (int g : new int[] {0, 3, 1, 2, 0}) {
            CHECK.same("turns: segment " + g, x.segment(0, 0, g), due[g]);
        }
        x.drop(0, 1);
        show(x);
        CHECK.same("turns: three are left", segments(x), "1/1 1/1 1/1");
        shown(x, 4, "w4");
        x.drop(0, 0);
        x.drop(0, 3);
        show(x);
        shown(x, 5, "w5");
        CHECK.same("turns: 2, 4, 5", segments(x), "1/1 1/1 1/1");
        CHECK.same("turns: the first", x.segment(0, 0, 0), due[2]);
        CHECK.same("turns: the second", x.segment(0, 0, 1), due[4]);
        CHECK.same("turns: the third", x.segment(0, 0, 2), due[5]);
        x.put(0, 4, "w1");
        show(x);
        CHECK.same("turns: another text of 4", x.segment(0, 0, 2), "1 4 1 1 0 2 119 49 1 0 1 0");
        CHECK.same("turns: 5 moved up", x.segment(0, 0, 1), due[5]);
    }

    // ---- QUESTIONS

    private static void fault(String question, int place) {
        Cluster x = new Cluster();
        CHECK.due("fault of " + question, x.find(0, 1, question), -2 - place);
        CHECK.due("none came of " + question, x.told(1), 0);
    }

    private static void noFault(String question) {
        CHECK.due("no fault of " + question, new Cluster().find(0, 1, question), 0);
    }

    /** "FAULT: the place of the first octet that can't stand there" */
    private static void faultAtOnce() {
        for (String first : new String[] {"*", ".", "?", "(", "~", "/", ":", "@", "[", "`", "{", "!"}) {
            fault(first, 0);
            fault("a " + first, 2);
            fault("a" + first.replace("*", "."), 1);
            fault("+" + first, 1);
        }
        fault("++a", 1);
        fault("+-a", 1);
        fault("- a", 1);
        fault("-*", 1);
    }

    /** "(the end: its size)"; "clauses, one or more" */
    private static void faultAtTheEnd() {
        fault("", 0);
        fault(" ", 1);
        fault("        ", 8);
        fault("+", 1);
        fault("a -", 3);
        fault("\"", 1);
        fault("-\"", 2);
        fault("\"a", 2);
        fault("\"a b ", 5);
        fault("\"  ", 3);
    }

    /** "or \" rows with one blank at least between, one row or more \"" */
    private static void faultInQuotes() {
        fault("\"\"", 1);
        fault("\" \"", 2);
        fault("\"+a\"", 1);
        fault("\"a*\"", 2);
        fault("\"a.b\"", 2);
        fault("\"a -b\"", 3);
        noFault("\"a\"");
        noFault("-\"a b\"");
    }

    private static void faultBehindAUnit() {
        fault("a*b", 2);
        fault("a**", 2);
        fault("a+", 1);
        fault("a\"b\"", 1);
        fault("\"a\"b", 3);
        fault("\"a\"*", 3);
        fault("\"a\"\"b\"", 3);
        fault("a*\"b\"", 2);
        noFault("a* b");
        noFault("\"a\" b");
    }

    /** "At most 6 clauses"; "of the seventh clause's first octet" */
    private static void sixClauses() {
        noFault("a b c d e f");
        noFault("a b c d e f  ");
        fault("a b c d e f g", 12);
        fault("a b c d e f  +g", 13);
        fault("a b c d e f .", 12);
        fault("the the the the the the the", 24);
        fault("a* +b -c \"d e\" f g h", 19);
    }

    /** "4 rows in a UNIT"; "of the fifth row's first octet" */
    private static void fourRows() {
        noFault("\"a b c d\"");
        noFault("\"a b c d  \"");
        fault("\"a b c d e\"", 9);
        fault("\"a b c d   eee\"", 11);
        fault("\"a b c d .\"", 9);
        noFault("\"a b c d\" \"a b c d\"");
    }

    /** "octets 32 .. 126, at most 60" */
    private static void sixtyOctets() {
        StringBuilder sixty = new StringBuilder();
        for (int i = 0; i < 60; i++) {
            sixty.append('a');
        }
        noFault(sixty.toString());
        sixty.setCharAt(59, '"');
        fault(sixty.toString(), 59);
        sixty.setCharAt(59, ' ');
        sixty.setCharAt(58, ' ');
        noFault(sixty.toString());
        sixty.setCharAt(59, '+');
        fault(sixty.toString(), 60);
    }

    /** Six UNITS of four rows are 59 octets; the last WORD of them counts as the first. */
    private static void twentyFourRows() {
        Cluster x = with("b c d e");
        String unit = "\"b c d e\"";
        // D 1, T 4, each F 1: four times 32 * 2200 / (1300 + 900)
        CHECK.same("rows: one unit", found(x, unit), "0:128");
        CHECK.same("rows: six", found(x, unit + " " + unit + " " + unit + " " + unit + " " + unit + " " + unit),
                "0:768");
    }

    /** A FAULT is of this draft's octets alone, whatever stood behind them before. */
    private static void draftOfBefore() {
        Cluster x = new Cluster();
        x.find(0, 1, "..\"..\"...");
        CHECK.due("before: a quote", x.find(0, 1, "\"a"), -2 - 2);
        x.find(0, 1, ".........a");
        CHECK.due("before: a row", x.find(0, 1, "+"), -2 - 1);
        x.find(0, 1, "..........");
        CHECK.due("before: what cannot stand there", x.find(0, 1, "a"), 0);
    }

    private static void questionOctets() {
        for (int octet : new int[] {0, 9, 31, 127, 128, 160, 225, 255}) {
            Cluster x = new Cluster();
            x.write("a ");
            x.draft(1, octet);
            CHECK.due("octet " + octet, x.find(0, 1), -2 - 2);
            x.write("a");
            x.draft(1, octet);
            CHECK.due("octet " + octet + " in a row", x.find(0, 1), -2 - 1);
            x.write("\"a ");
            x.draft(1, octet);
            CHECK.due("octet " + octet + " in quotes", x.find(0, 1), -2 - 3);
        }
    }

    /** "Blanks may stand before and behind clauses, and rows in \", too." */
    private static void blanks() {
        Cluster x = with("cat dog");
        CHECK.same("blanks: around", documents(x, "   dog  "), "0");
        CHECK.same("blanks: between", documents(x, "cow    dog"), "0");
        CHECK.same("blanks: in quotes", documents(x, " \"  cat   dog  \" "), "0");
    }

    /** "A clause without any WORD (the, ..) is left out" */
    private static void clausesLeftOut() {
        Cluster x = with("cat", "the", "a b");
        CHECK.same("left out: alone", documents(x, "the"), "");
        CHECK.same("left out: +the", documents(x, "+the cat"), "0");
        CHECK.same("left out: behind another", documents(x, "cat the"), "0");
        CHECK.same("left out: with + behind another", documents(x, "cat +the \"a the\" an"), "0");
        CHECK.same("left out: before one with *", documents(x, "the ca*"), "0");
        CHECK.same("left out: in quotes before one with *", documents(x, "\"the of a\" +ca*"), "0");
        CHECK.same("left out: -the", documents(x, "-the cat"), "0");
        CHECK.same("left out: in quotes", documents(x, "+\"of the a an\" cat"), "0");
        CHECK.same("left out: thes", documents(x, "+thes cat"), "0");
        CHECK.same("left out: not with *", documents(x, "+the* cat"), "");
        CHECK.same("left out: not beside a word", documents(x, "+\"the cat\" b"), "");
    }

    // ---- what FITS

    /** "such a row and *": "a WORD that begins so" */
    private static void starUnits() {
        Cluster x = with("cat", "cater", "ca", "c4", "dog");
        CHECK.same("star: ca*", documents(x, "ca*"), "0 1 2");
        CHECK.same("star: CA*", documents(x, "CA*"), "0 1 2");
        CHECK.same("star: cat*", documents(x, "cat*"), "0 1");
        CHECK.same("star: caters* is not made shorter", documents(x, "caters*"), "");
        CHECK.same("star: cats* is not, either", documents(x, "cats*"), "");
        CHECK.same("star: c4*", documents(x, "c4*"), "3");
        CHECK.same("star: 4*", documents(x, "4*"), "");
        CHECK.same("star: 64 each, once", found(x, "c* +ca* -cat*"), "2:128");
    }

    /** "of a row with * the letters are small, and of more than 12 the first 12" */
    private static void starOfTwelve() {
        Cluster x = with("abcdefghijkl", "abcdefghijkm", "abcdefghijk", "zzzzzzzzzzzz");
        CHECK.same("twelve: all of it", documents(x, "abcdefghijkl*"), "0");
        CHECK.same("twelve: and no more", documents(x, "abcdefghijklxyz*"), "0");
        CHECK.same("twelve: eleven", documents(x, "abcdefghijk*"), "0 1 2");
        CHECK.same("twelve: the last of all", documents(x, "zzzzzzzzzzzz*"), "3");
        CHECK.same("twelve: by its first", documents(x, "z*"), "3");
    }

    /** "the WORDS at such places one behind the other" */
    private static void quotedUnits() {
        Cluster x = with("b c d", "c b d", "b x c d", "b c");
        CHECK.same("quoted: one row", documents(x, "\"d\""), "0 1 2");
        CHECK.same("quoted: two", documents(x, "\"b c\""), "3 0");
        CHECK.same("quoted: three", documents(x, "\"b c d\""), "0");
        CHECK.same("quoted: in order", documents(x, "\"d c\""), "");
        CHECK.same("quoted: not beyond the end", documents(x, "\"c d b\""), "");
    }

    /** "in \" such rows count as places alone"; "(the first row's place being 0 or more)" */
    private static void quotedPlaces() {
        Cluster x = with("b", "x b", "b x c", "b c", "b the c");
        CHECK.same("places: a row before it", documents(x, "\"the b\""), "1");
        CHECK.same("places: two before it", documents(x, "\"the a b\""), "");
        CHECK.same("places: behind it, even where the text ends", documents(x, "\"b of an a\""), "0 1 3 4 2");
        CHECK.same("places: between", documents(x, "\"b of c\""), "4 2");
    }

    /** "It is FOUND when it FITS all clauses with +, none with -, and at least one without -." */
    private static void foundOrNot() {
        Cluster x = with("b", "c", "b c", "d");
        CHECK.same("found: at least one", documents(x, "b c"), "2 0 1");
        CHECK.same("found: all with +", documents(x, "+b +c"), "2");
        CHECK.same("found: + alone is enough", documents(x, "+b c"), "2 0");
        CHECK.same("found: none with -", documents(x, "b -c"), "0");
        CHECK.same("found: - alone", documents(x, "-b"), "");
        CHECK.same("found: + and - of the same", documents(x, "+b -b"), "");
        CHECK.same("found: nothing fits", documents(x, "q1"), "");
        CHECK.same("found: with + of nothing", documents(x, "b +q1"), "");
        CHECK.same("found: with - of nothing", documents(x, "d -q1"), "3");
    }

    // ---- SCORES

    /** D documents, each with one WORD: RARE is LOG(2 D + 2) less LOG(2 D + 1), and the SCORE is RARE. */
    private static void logs() {
        int[] many = {1, 2, 3, 31, 32, 63, 64};
        // LOG(4) - LOG(3), LOG(6) - LOG(5), LOG(8) - LOG(7), LOG(64) - LOG(63), LOG(66) - LOG(65),
        // LOG(128) - LOG(127), LOG(130) - LOG(129)
        int[] due = {128 - 96, 160 - 144, 192 - 176, 384 - 382, 386 - 385, 448 - 447, 449 - 448};
        for (int i = 0; i < many.length; i++) {
            Cluster x = new Cluster(1, 1, 1);
            int batch = 0;
            for (int d = 0; d < many[i]; d++) {
                x.put(0, d, "b");
                batch++;
                if (batch == 50) {
                    x.run(3);
                }
            }
            show(x);
            int r = x.find(0, 10, "b");
            x.run(5);
            CHECK.due("log: of " + many[i], x.hit(r, 0, 1), due[i]);
        }
    }

    private static void scoreOfOne() {
        Cluster x = with("cat");
        // D, T, F, l, h 1: 32 * 2200 / (1000 + 300 + 900)
        CHECK.same("one: cat", found(x, "cat"), "0:32");
        CHECK.same("one: the sum of two clauses", found(x, "cat +cat"), "0:64");
        CHECK.same("one: and of a third", found(x, "cat +cat ca*"), "0:128");
        CHECK.same("one: nothing for -", found(x, "cat -dog"), "0:32");
    }

    /** "h being how often it FITS" */
    private static void scoreOfMany() {
        Cluster x = with("b b b", "b c");
        // D 2, T 5, F 2: LOG(6) - LOG(5) = 16
        // 16 * 2200 * 3 / (3000 + 300 + 900 * 3 * 2 / 5), 16 * 2200 / (1000 + 300 + 900 * 2 * 2 / 5)
        CHECK.same("many: three times and once", found(x, "b"), "0:24 1:17");
        // "b b" stands at 0 and at 1: 2 * 16 * 2200 * 2 / (2000 + 300 + 1080)
        CHECK.same("many: at two places", found(x, "\"b b\""), "0:41");
        CHECK.same("many: with * once", found(x, "b*"), "0:64 1:64");
    }

    /** "RARE (of several WORDS: their sum)" */
    private static void scoreOfRows() {
        Cluster x = with("b c", "b", "d");
        // D 3, T 4: LOG(8) = 192; b: F 2, LOG(5) = 144, so 48; c: F 1, LOG(3) = 96, so 96
        // (48 + 96) * 2200 / (1300 + 900 * 2 * 3 / 4)
        CHECK.same("rows: both", found(x, "\"b c\""), "0:119");
        // c and a place: 96 * 2200 / 2650
        CHECK.same("rows: a row that is none adds nothing", found(x, "\"c the\""), "0:79");
        Cluster y = with("the b", "the c", "d");
        // D 3, T 3, F 1: 96 * 2200 / (1300 + 900)
        CHECK.same("rows: nor has it an F", found(y, "\"the b\""), "0:96");
        CHECK.same("rows: nor before another", found(y, "-\"the d\" d"), "2:96");
        // clauses behind it have their own RARE: d is 96, of LENGTH 1: 96 * 2200 / (1300 + 675)
        CHECK.same("rows: the next clause", found(x, "-\"b b c\" x* \"b c\" d"), "0:119 2:106");
    }

    /** "both divisions cut" */
    private static void scoreIsCut() {
        Cluster x = with("b", "c d e");
        // D 2, T 4: LOG(6) = 160 less 96; 900 * 1 * 2 / 4 = 450: 64 * 2200 / 1750 = 80.4
        CHECK.same("cut: the outer one", found(x, "b"), "0:80");
        Cluster y = with("b", "c d e f g", "b");
        // D 3, T 7: LOG(8) = 192 less LOG(5) = 144; 900 * 3 / 7 = 385.7: 48 * 2200 / 1685 = 62.67
        CHECK.same("cut: both", found(y, "b"), "0:62 2:62");
        // c: 96 * 2200 / (1300 + 900 * 5 * 3 / 7 = 1928.5): 65.4
        CHECK.same("cut: the inner one", found(y, "c"), "1:65");
        Cluster z = with("b b b", "", "c");
        // D 3, T 4, F 1: 96 * 2200 * 3 / (3000 + 300 + 900 * 3 * 3 / 4) = 118.99
        CHECK.same("cut: just below", found(z, "b"), "0:118");
        // 96 * 2200 / (1000 + 300 + 675) = 106.9
        CHECK.same("cut: and of another", found(z, "c"), "2:106");
    }

    /** WORDS that differ in their twelfth octet alone have each its own F. */
    private static void wordsThatAreNearlyAlike() {
        Cluster x = with("abcdefghijkl", "abcdefghijkm", "abcdefghijkk");
        // D 3, T 3, F 1: 96 * 2200 / 2200
        CHECK.same("alike: l", found(x, "abcdefghijkl"), "0:96");
        CHECK.same("alike: m", found(x, "abcdefghijkm"), "1:96");
    }

    /** "D, T, F are added up" */
    private static void scoreOverShards() {
        Cluster x = new Cluster(3, 3, 1);
        x.put(0, 0, "b");
        x.put(0, 1, "b c");
        x.put(0, 5, "d");
        x.run(4);
        for (int shard = 0; shard < 3; shard++) {
            x.refresh(0, shard);
        }
        x.run(4);
        int r = x.find(2, 10, "b");
        x.run(6);
        // as of one shard: D 3, T 4, F 2: 48 * 2200 / (1300 + 675), 48 * 2200 / (1300 + 1350)
        CHECK.same("shards: together", x.hits(r), "0:53 1:39");
    }

    /** "of like ones the lesser documents first, as many as asked for at most" */
    private static void likeScores() {
        Cluster x = new Cluster(2, 2, 1);
        for (int d = 12; d > 0; d--) {
            x.put(0, d, d == 7 ? "b b" : "b");
        }
        for (int d = 20; d < 38; d++) {
            x.put(0, d);
        }
        x.run(4);
        x.refresh(0, 0);
        x.refresh(0, 1);
        x.run(4);
        int all = x.find(0, 10, "b");
        int three = x.find(0, 3, "b");
        x.run(6);
        CHECK.same("like: ten of twelve", x.hits(all).replaceAll(":\\d+", ""), "7 1 2 3 4 5 6 8 9 10");
        CHECK.same("like: three", x.hits(three).replaceAll(":\\d+", ""), "7 1 2");
    }

    /** No documents at all, and documents without WORDS: T is 0. */
    private static void nothingThere() {
        CHECK.same("nothing: no documents", found(new Cluster(1, 1, 1), "cat"), "");
        CHECK.same("nothing: no words", found(with("", "the"), "cat c* \"a b\""), "");
        Cluster x = new Cluster(1, 1, 1);
        x.put(0, 0, "cat");
        x.run(3);
        CHECK.same("nothing: what is not shown", found(x, "cat"), "");
    }

    // ---- CONTEXTS

    private static Cluster withFinds(int many) {
        Cluster x = new Cluster(1, 1, 1);
        for (int i = 0; i < many; i++) {
            x.find(0, 1, "cat");
        }
        x.deliver(0, 1, many);
        x.deliver(1, 0, many);
        x.deliver(0, 0, many);
        return x;
    }

    /** "has less than 8 CONTEXTS .. Else NO r a" */
    private static void eightContexts() {
        Cluster x = withFinds(9);
        CHECK.due("eight: contexts", x.told(6), 8);
        CHECK.same("eight: STATS, and NO to the ninth", x.kinds(0, 0), "20 20 20 20 20 20 20 20 4");
        CHECK.same("eight: r a shard CONTEXT D", x.message(0, 0, 7), "20 7 0 0 7 0");
        CHECK.same("eight: NO r a", x.message(0, 0, 8), "4 8 0 0 0 0");
    }

    /** "the CONTEXT (the least number 0 .. 7 that is free)" */
    private static void leastFreeContext() {
        Cluster x = withFinds(8);
        // STATS of all, then the SCORES of requests 0 to 2: contexts 0 to 2 are free
        x.deliver(0, 0, 8);
        x.deliver(0, 0, 3);
        CHECK.due("least: five left", x.told(6), 5);
        x.find(0, 1, "cat");
        x.deliver(0, 1);
        x.deliver(1, 0);
        x.drain(0, 0);
        CHECK.same("least: 0 again", x.newest(0, 0), "20 8 0 0 0 0");
    }

    /** "the CONTEXT is gone; else NO r a" */
    private static void contextIsGone() {
        Cluster x = withFinds(1);
        x.deliver(0, 0);
        CHECK.same("gone: SCORE r a shard CONTEXT D", x.message(0, 0, 0), "21 0 0 0 0 0");
        x.ticks(12);
        CHECK.due("gone: it was too old", x.told(6), 0);
        CHECK.due("gone: SCORE", x.deliver(0, 0), 21);
        CHECK.same("gone: NO r a", x.newest(0, 0), "4 0 0 0 0 0");
        Cluster y = withFinds(1);
        y.deliver(0, 0);
        CHECK.due("gone: one", y.told(6), 1);
        y.deliver(0, 0);
        CHECK.due("gone: by SCORE", y.told(6), 0);
        CHECK.same("gone: TOP r a shard and how many", y.newest(0, 0), "22 0 0 0 0 0");
    }

    /** "when that CONTEXT is r, a, shard" */
    private static void contextOfAnother() {
        Cluster x = new Cluster(2, 1, 1);
        x.find(1, 1, "cat");
        x.ask(1, 2, 0);
        x.deliver(0, 1);
        CHECK.same("another: SCORE of context 0", x.message(1, 0, 0), "21 0 0 0 0 0");
        x.down(0);
        x.start(0);
        x.drain(0, 2);
        x.drain(2, 0);
        // the same number is another one's then
        x.find(0, 1, "cat");
        x.deliver(0, 2);
        x.deliver(2, 0);
        x.deliver(0, 0);
        CHECK.same("another: STATS of context 0", x.newest(0, 0), "20 1 0 0 0 0");
        x.deliver(1, 0);
        CHECK.same("another: NO", x.newest(0, 1), "4 0 0 0 0 0");
        CHECK.due("another: it is there yet", x.told(6), 1);
        // the same request at another attempt
        Cluster y = new Cluster(2, 1, 1);
        y.find(1, 1, "cat");
        y.ask(1, 2, 0);
        y.deliver(0, 1);
        y.down(0);
        y.start(0);
        y.drain(0, 2);
        y.drain(2, 0);
        y.ticksHeard(8, 2, 0, 1);
        y.drain(2, 1);
        CHECK.same("another: SCORE of attempt 0, OPEN of attempt 1", y.kinds(1, 0), "21 19");
        y.deliver(1, 0);
        CHECK.same("another: NO to attempt 0", y.newest(0, 1), "4 0 0 0 0 0");
        y.deliver(1, 0);
        CHECK.same("another: STATS to attempt 1", y.newest(0, 1), "20 0 1 0 0 0");
    }

    /** "the LIVE documents with their REQUESTS as they are now" */
    private static void contextKeepsItsDocuments() {
        Cluster x = new Cluster(2, 1, 1);
        x.put(0, 0, "cat");
        show(x);
        int r = x.find(1, 5, "cat");
        x.clear(1, 2);
        x.ticks(8);
        x.clear(0, 2);
        while (x.message(1, 2, 0, 0) != 1) {
            x.lose(1, 2);
        }
        x.ask(1, 2, 0);
        CHECK.same("keeps: STATS with D 1", x.newest(0, 1), "20 2 1 0 0 1");
        x.put(0, 0, "dog");
        x.put(0, 1, "cat");
        x.drain(0, 2);
        x.drain(2, 0);
        x.drain(0, 0);
        x.refresh(0, 0);
        x.drain(0, 2);
        x.drain(2, 0);
        x.drain(0, 0);
        CHECK.due("keeps: the index has another", x.document(0, 0, 2), 3);
        x.deliver(0, 1);
        x.deliver(1, 0);
        x.drain(0, 1);
        CHECK.same("keeps: what it had", x.hits(r), "0:32");
    }

    /** "when it has a COPY, is in its VIEW's MASK" */
    private static void openOutsideTheMask() {
        Cluster x = new Cluster(2, 1, 2);
        x.refresh(0, 0);
        x.find(0, 1, "cat");
        x.deliver(0, 2, 2);
        x.deliver(2, 0, 2);
        CHECK.same("mask: OPEN to node 1", x.message(0, 1, 0), "19 1 0 0 0 0");
        x.down(1);
        x.start(1);
        x.deliver(0, 1);
        CHECK.same("mask: its view is unknown: NO", x.newest(1, 0), "4 1 0 0 0 0");
        CHECK.due("mask: no context", x.told(6), 0);
        // OUTSIDE by its view
        Cluster y = new Cluster(2, 1, 2);
        y.find(0, 1, "cat");
        y.find(0, 1, "cat");
        y.deliver(0, 2, 2);
        y.deliver(2, 0, 2);
        y.down(1);
        y.ticksHeard(8, 2, 0);
        y.start(1);
        y.drain(1, 2);
        y.drain(2, 1);
        CHECK.due("mask: outside", y.copy(1, 0, 5), 0);
        y.deliver(0, 1);
        CHECK.same("mask: NO", y.newest(1, 0), "4 1 0 0 0 0");
    }
}
