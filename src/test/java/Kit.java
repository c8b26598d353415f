/** What the tests share: a tally of wrong answers, and texts brought to the tape. */
final class Kit {
    /** Numbers that no argument of the document's calls can be, but for a seed or a tape's bytes. */
    static final int[] FAR_OUT = {Integer.MIN_VALUE, Integer.MIN_VALUE + 1, -1000, 1000, Integer.MAX_VALUE - 1, Integer.MAX_VALUE};

    // Two nodes; six in a line; one amid five, its ways alike; all links that may be.
    static final String PAIR = "nodes 2;link 0 1 1;route 0 a 1 0;serve 1 a 9;";
    static final String LINE = "nodes 6;life 99;link 0 1 1;link 1 2 1;link 2 3 1;link 3 4 1;link 4 5 1;"
        + "route 0 a 1 0;route 1 a 2 0;route 2 a 3 0;route 3 a 4 0;route 4 a 5 0;";
    static final String STAR = "nodes 6;life 99;link 0 1 1;link 0 2 1;link 0 3 1;link 0 4 1;link 0 5 1;"
        + "route 0 a 5 7;route 0 a 4 7;route 0 a 3 7;route 0 a 2 7;route 0 a 1 7;";
    static final String ALL_LINKS = "nodes 6;link 0 1 1;link 0 2 1;link 0 3 1;link 0 4 1;link 0 5 1;link 1 2 1;link 1 3 1;"
        + "link 1 4 1;link 1 5 1;link 2 3 1;link 2 4 1;link 2 5 1;link 3 4 1;link 3 5 1;link 4 5 1;";

    private static int wrong = 0;
    private static int looked = 0;
    private static String sentence = "";

    private Kit() {
    }

    /** The sentence of the document that the answers from here on stand for; each wrong one tells it. */
    static void of(String promise, String words) {
        sentence = promise + " (\"" + words + "\"): ";
    }

    static void due(String call, long got, long want) {
        looked++;
        if (got != want) {
            wrong++;
            if (wrong <= 40) {
                System.out.println(sentence + call + " answered " + got + ", due is " + want);
            }
        }
    }

    static void due(String call, boolean got, boolean want) {
        due(call, got ? 1 : 0, want ? 1 : 0);
    }

    static boolean allWell() {
        return wrong == 0;
    }

    static void finish() {
        System.out.println(wrong == 0 ? looked + " answers are as due" : wrong + " answers of " + looked + " are not as due");
        if (wrong != 0) {
            System.exit(1);
        }
    }

    /** Five numbers that bring the twenty bytes of a text from a place on, blanks behind its end. */
    static int[] twenty(String text, int from) {
        int[] five = new int[5];
        for (int i = 0; i < 20; i++) {
            int sign = from + i < text.length() ? text.charAt(from + i) : ' ';
            five[i / 4] = five[i / 4] << 8 | sign;
        }
        return five;
    }

    /** The tape is this text alone. */
    static void write(AskedNames x, String text) {
        x.end(0);
        for (int i = 0; i < text.length(); i += 20) {
            int[] five = twenty(text, i);
            x.feed(five[0], five[1], five[2], five[3], five[4]);
        }
        x.end(text.length());
    }

    static int tell(AskedNames x, int sort, String text) {
        write(x, text);
        return x.text(sort, -1);
    }

    static AskedNames told(String net, String run) {
        AskedNames x = new AskedNames();
        due("net: " + net, tell(x, 0, net), 0);
        due("run: " + run, tell(x, 1, run), 0);
        return x;
    }

    static void fault(int sort, String text, int number, int place) {
        AskedNames x = new AskedNames();
        due("text of " + text, tell(x, sort, text), number == 0 ? 0 : -1);
        due("fault of " + text, x.fault(0), number);
        due("place in " + text, x.fault(1), number == 0 ? -1 : place);
        due("count behind " + text, x.count(sort), number == 0 ? 1 : 0);
    }

    /** Numbers of which there is none where there are so many, from 0 on. */
    static int[] noneOf(int many) {
        return new int[] {Integer.MIN_VALUE, -1000, -2, -1, many, many + 1, 1000, Integer.MAX_VALUE};
    }

    static int name(String letters) {
        int number = 0;
        for (char c : letters.toCharArray()) {
            number = number * 27 + c - 'a' + 1;
        }
        return number;
    }

    /** Deeds by which so many minutes go by. */
    static String waits(int minutes) {
        StringBuilder text = new StringBuilder();
        for (int left = minutes; left > 0; left -= 20) {
            text.append("wait ").append(Math.min(left, 20)).append(";");
        }
        return text.toString();
    }

    static int deedsOf(String run) {
        return run.split(";", -1).length - 1;
    }

    /** All of why() of a deed of the first run in the first net. */
    static void why(AskedNames x, int k, int... want) {
        for (int what = 0; what < 7; what++) {
            due("why(0, 0, " + k + ", " + what + ")", x.why(0, 0, k, what), want[what]);
        }
    }

    static void got(AskedNames x, int k, int minute, int node, int fromStore) {
        why(x, k, 1, minute, node, fromStore, -1, -1, -1);
    }

    static void refused(AskedNames x, int k, int minute, int depth, int root, int where) {
        why(x, k, 2, minute, -1, -1, depth, root, where);
    }

    static void ranOut(AskedNames x, int k, int minute) {
        why(x, k, 3, minute, -1, -1, -1, -1, -1);
    }

    static void nothingYet(AskedNames x, int k) {
        why(x, k, 0, -1, -1, -1, -1, -1, -1);
    }

    /** All of entry() of the first run in the first net. */
    static void entry(AskedNames x, int n, int node, int i, int... want) {
        for (int what = 0; what < 8; what++) {
            due("entry(0, 0, " + n + ", " + node + ", " + i + ", " + what + ")", x.entry(0, 0, n, node, i, what), want[what]);
        }
    }
}
