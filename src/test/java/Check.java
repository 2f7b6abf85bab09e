/** Counts the answers that are not the ones that are due. */
final class Check {
    interface Call {
        long answer();
    }

    private int wrong;
    private int asked;

    void due(String what, long got, long want) {
        asked++;
        if (got != want) {
            wrong++;
            System.out.println(what + " answered " + got + ", due is " + want);
        }
    }

    void same(String what, String got, String want) {
        asked++;
        if (!got.equals(want)) {
            wrong++;
            System.out.println(what + " answered " + got + ", due is " + want);
        }
    }

    /** The call throws just this class, no class below it. */
    void thrown(String what, Class<? extends RuntimeException> want, Call call) {
        asked++;
        String got;
        try {
            got = "answered " + call.answer();
        } catch (RuntimeException e) {
            if (e.getClass() == want) {
                return;
            }
            got = "threw " + e.getClass().getName();
        }
        wrong++;
        System.out.println(what + " " + got + ", due is " + want.getName());
    }

    /** The call throws nothing. */
    void fine(String what, Call call) {
        asked++;
        try {
            call.answer();
        } catch (RuntimeException e) {
            wrong++;
            System.out.println(what + " threw " + e.getClass().getName() + ", due is an answer");
        }
    }

    void outside(String what, Call call) {
        thrown(what, IndexOutOfBoundsException.class, call);
    }

    void refused(String what, Call call) {
        thrown(what, IllegalArgumentException.class, call);
    }

    void notNow(String what, Call call) {
        thrown(what, IllegalStateException.class, call);
    }

    /** THE DRAFT gets a text; answers how many octets it has then. */
    static int write(SearchCluster x, String text) {
        int size = 0;
        for (int i = 0; i < text.length(); i += 8) {
            int many = Math.min(8, text.length() - i);
            long octets = 0;
            for (int k = many - 1; k >= 0; k--) {
                octets = octets << 8 | text.charAt(i + k) & 255;
            }
            size = x.draft(many, octets);
        }
        return size;
    }

    static int put(SearchCluster x, int node, int document, String text) {
        write(x, text);
        return x.put(node, document);
    }

    static int find(SearchCluster x, int node, int many, String question) {
        write(x, question);
        return x.find(node, many);
    }

    static SearchCluster made(int n, int s, int c) {
        SearchCluster x = new SearchCluster();
        x.make(n, s, c);
        return x;
    }

    /** Ends the test: with exit code 1 if an answer was wrong. */
    void end(String name) {
        String told = wrong == 0 ? asked + " answers are as due" : wrong + " answers are not as due";
        System.out.println(name + ": " + told);
        if (wrong != 0) {
            System.exit(1);
        }
    }
}
