import java.util.HashMap;
import java.util.Map;

/** Promises 1 to 7, 18 and 23 to 25, with Term 1: each sentence that names a bound has a test of its own. */
public final class BoundsOfTextsTest {

    private static final int NONE = AskedNames.NONE;
    private static final int BLANKS = 0x20202020;
    private static final String[] GOOD = {"nodes 2;", "wait 2;", "lost 2;"};

    public static void main(String[] args) {
        newObject();
        feeds();
        ends();
        texts();
        faults();
        whatIsStruck();
        nothingStaysOfFormerTexts();
        nets();
        deeds();
        facts();
        counts();
        images();
        useOf512Calls();
        Kit.finish();
    }

    private static void due(String call, int got, int want) {
        Kit.due(call, got, want);
    }

    private static void feeds() {
        feedBringsTwentyBytes();
        feedUpTo600();
        feedBeyond600();
    }

    private static void ends() {
        endKeepsTheFirst();
        endOfMoreThanThereIs();
        endBelowNothing();
    }

    private static void texts() {
        tapeIsEmptyBehindText();
        textGetsItsNumber();
        textWithFault();
        textInPlaceOfNone();
        textBeyondTheMost();
        textOfNoSort();
        refusedTextIsNotRead();
    }

    private static void faults() {
        faultOfTheLatestText();
        faultOfAnotherWhat();
    }

    private static void images() {
        imagesOfThree();
        imageOfAll();
        imageAsItWasThen();
        againWithoutImage();
    }

    // ---- Promise 1 ------------------------------------------------------------------------------

    private static void newObject() {
        Kit.of("Promise 1, a new object", "No NETS, RUNS, LOGS; no images.");
        due("NONE", NONE, -1);
        AskedNames other = new AskedNames();
        Kit.tell(other, 0, "");
        Kit.tell(other, 1, "");
        Kit.tell(other, 2, "");
        other.image(0);
        AskedNames x = new AskedNames();
        for (int k = 0; k < 3; k++) {
            due("count", x.count(k), 0);
            Kit.due("again", x.again(k), false);
            due("text in place of none", x.text(k, 0), -2);
        }
        due("net", x.net(0, 0), -2);
        due("deed", x.deed(0, NONE, 0), -2);
        due("stop", x.stop(0, 0), NONE);
        due("state", x.state(0, 0, 0, 0), -2);
        due("stored", x.stored(0, 0, 0, 0, 0, 0), NONE);
        due("entry", x.entry(0, 0, 0, 0, 0, 0), NONE);
        due("why", x.why(0, 0, 0, 0), -2);
        due("alone", x.alone(0, 0, 1, 0, 0), -2);
        due("table", x.table(0, 0, 0), NONE);
        due("ways", x.ways(0, 0, 1, false), NONE);
        due("letters", x.ways(0, 0, 1, true), NONE);
        due("trail", x.trail(0, 0, 1, NONE), NONE);
        due("far", x.far(0, 0, 0), NONE);
        due("fact", x.fact(0, NONE, 0), -2);
        due("fits", x.fits(0, 0, 0, 0), -2);
        due("drawn", x.drawn(0, 0, 0, 0), -2);
        due("after", x.after(0, 0, 0), -2);
        due("edges", x.edges(0, 0), NONE);
        due("fault", x.fault(0), 0);
        due("its place", x.fault(1), NONE);
        due("the tape is empty", x.end(1), NONE);
    }

    // ---- Promise 2 ------------------------------------------------------------------------------

    private static void feedBringsTwentyBytes() {
        Kit.of("Promise 2, feed", "twenty bytes come behind it, of each number the highest first: how many it has");
        for (int at = 0; at < 20; at++) {
            for (int bad : new int[] {0, 65, 127, 128, 255}) {
                AskedNames x = new AskedNames();
                x.feed(BLANKS, BLANKS, BLANKS, BLANKS, BLANKS);
                x.end(3);
                int[] five = {BLANKS, BLANKS, BLANKS, BLANKS, BLANKS};
                int shift = 24 - 8 * (at % 4);
                five[at / 4] = BLANKS & ~(255 << shift) | bad << shift;
                due("how many", x.feed(five[0], five[1], five[2], five[3], five[4]), 23);
                due("text", x.text(0, NONE), NONE);
                due("place of the byte", x.fault(1), 3 + at);
            }
        }
    }

    private static AskedNames tapeOf(int bytes) {
        AskedNames x = new AskedNames();
        for (int i = 0; i < 30; i++) {
            x.feed(BLANKS, BLANKS, BLANKS, BLANKS, BLANKS);
        }
        x.end(bytes);
        return x;
    }

    private static void feedUpTo600() {
        Kit.of("Promise 2, feed", "NONE, and nothing comes, if there would be more than 600.");
        AskedNames x = new AskedNames();
        for (int i = 1; i <= 30; i++) {
            due("feed " + i, x.feed(BLANKS, BLANKS, BLANKS, BLANKS, BLANKS), 20 * i);
        }
        due("all of them", x.end(600), 600);
        due("behind 579", tapeOf(579).feed(0, 0, 0, 0, 0), 599);
        due("behind 580", tapeOf(580).feed(0, 0, 0, 0, 0), 600);
    }

    private static void feedBeyond600() {
        Kit.of("Promise 2, feed", "NONE, and nothing comes, if there would be more than 600.");
        for (int have = 581; have <= 600; have++) {
            AskedNames x = tapeOf(have);
            due("feed behind " + have, x.feed(0, 0, 0, 0, 0), NONE);
            due("a second time", x.feed(0, 0, 0, 0, 0), NONE);
            due("no longer", x.end(have + 1), NONE);
            due("as long", x.end(have), have);
            due("its bytes are as they were", x.text(0, NONE), 0);
        }
    }

    // ---- Promise 3 ------------------------------------------------------------------------------

    private static void endKeepsTheFirst() {
        Kit.of("Promise 3, end", "The tape has its first n bytes alone: n.");
        String text = "life 7;life 8;life 9;";
        for (int n = 0; n <= text.length(); n++) {
            AskedNames x = new AskedNames();
            Kit.write(x, text);
            due("end", x.end(n), n);
            due("no byte more", x.end(n + 1), NONE);
            due("text", x.text(0, NONE), n % 7 == 0 ? 0 : NONE);
            due("life", x.net(0, 1), n % 7 != 0 ? -2 : n == 0 ? 20 : 6 + n / 7);
        }
        AskedNames y = new AskedNames();
        Kit.write(y, text);
        y.end(5);
        y.feed(0x333b2020, BLANKS, BLANKS, BLANKS, BLANKS);
        due("bytes come behind the first ones", y.text(0, NONE), 0);
        due("life", y.net(0, 1), 3);
    }

    private static void endOfMoreThanThereIs() {
        Kit.of("Promise 3, end", "NONE if it has not so many");
        AskedNames x = new AskedNames();
        due("of an empty tape 0", x.end(0), 0);
        due("of an empty tape 1", x.end(1), NONE);
        Kit.write(x, "life 7;");
        for (int n : new int[] {8, 9, 20, 600, 601, Integer.MAX_VALUE}) {
            due("end " + n, x.end(n), NONE);
        }
        due("all that there is", x.end(7), 7);
        due("text", x.text(0, NONE), 0);
        due("life", x.net(0, 1), 7);
        due("of 600", tapeOf(600).end(601), NONE);
        due("of 600", tapeOf(600).end(600), 600);
    }

    private static void endBelowNothing() {
        Kit.of("Promise 3, end", "or n is below 0");
        AskedNames x = new AskedNames();
        Kit.write(x, "life 7;");
        for (int n : new int[] {-1, -2, -7, -600, Integer.MIN_VALUE}) {
            due("end " + n, x.end(n), NONE);
        }
        due("nothing is away", x.end(7), 7);
        due("end 0", x.end(0), 0);
        due("all is away", x.end(1), NONE);
    }

    // ---- Promise 4 ------------------------------------------------------------------------------

    private static void tapeIsEmpty(AskedNames x) {
        due("the tape is empty", x.end(1), NONE);
        due("feed brings its first bytes", x.feed(0, 0, 0, 0, 0), 20);
        x.end(0);
    }

    private static void tapeIsEmptyBehindText() {
        Kit.of("Promise 4, text", "The tape is taken (and is empty then)");
        for (int sort = 0; sort < 3; sort++) {
            AskedNames x = new AskedNames();
            due("a further one", Kit.tell(x, sort, GOOD[sort]), 0);
            tapeIsEmpty(x);
            Kit.write(x, GOOD[sort]);
            due("in the place of one", x.text(sort, 0), 0);
            tapeIsEmpty(x);
            due("with a fault", Kit.tell(x, sort, "bad"), NONE);
            tapeIsEmpty(x);
            Kit.write(x, GOOD[sort]);
            due("there is none such", x.text(sort, 1), -2);
            tapeIsEmpty(x);
            Kit.write(x, GOOD[sort]);
            due("no such sort", x.text(sort + 3, NONE), -2);
            tapeIsEmpty(x);
            due("a text of no bytes", x.text(sort, NONE), 1);
            Kit.write(x, GOOD[sort]);
            due("as many as may be", x.text(sort, NONE), -2);
            tapeIsEmpty(x);
        }
    }

    private static void textGetsItsNumber() {
        Kit.of("Promise 4, text", "as a text of a sort, a further one (at NONE), or in the place of one: its number");
        AskedNames x = new AskedNames();
        for (int at = 0; at < 2; at++) {
            due("net", Kit.tell(x, 0, "life " + (at + 1) + ";"), at);
            due("run", Kit.tell(x, 1, "wait " + (at + 1) + ";"), at);
            due("log", Kit.tell(x, 2, "lost " + (at + 1) + ";"), at);
        }
        for (int at = 1; at >= 0; at--) {
            Kit.write(x, "life " + (at + 5) + ";");
            due("net in place of " + at, x.text(0, at), at);
            Kit.write(x, "wait " + (at + 5) + ";");
            due("run in place of " + at, x.text(1, at), at);
            Kit.write(x, "lost " + (at + 5) + ";");
            due("log in place of " + at, x.text(2, at), at);
            due("the other net", x.net(1 - at, 1), at == 1 ? 1 : 6);
            due("the other run", x.deed(1 - at, 0, 1), at == 1 ? 1 : 6);
            due("the other log", x.fact(1 - at, 0, 0), at == 1 ? 1 : 6);
            due("this net", x.net(at, 1), at + 5);
            due("this run", x.deed(at, 0, 1), at + 5);
            due("this log", x.fact(at, 0, 0), at + 5);
        }
    }

    private static void textWithFault() {
        Kit.of("Promise 4, text", "NONE: a FAULT.");
        for (int sort = 0; sort < 3; sort++) {
            AskedNames x = new AskedNames();
            due("a first one", Kit.tell(x, sort, "bad"), NONE);
            due("count", x.count(sort), 0);
            Kit.tell(x, sort, GOOD[sort]);
            Kit.write(x, GOOD[sort] + GOOD[sort] + "bad");
            due("in the place of one", x.text(sort, 0), NONE);
            due("count", x.count(sort), 1);
            due("nodes", x.net(0, 0), sort == 0 ? 2 : -2);
            due("deeds", x.deed(0, NONE, 0), sort == 1 ? 1 : -2);
            due("facts", x.fact(0, NONE, 0), sort == 2 ? 1 : -2);
            due("a second one", Kit.tell(x, sort, "bad"), NONE);
            due("count", x.count(sort), 1);
            due("a good one", Kit.tell(x, sort, GOOD[sort]), 1);
        }
    }

    private static void textInPlaceOfNone() {
        Kit.of("Promise 4, text", "-2: there is none such");
        for (int sort = 0; sort < 3; sort++) {
            AskedNames x = new AskedNames();
            for (int have = 0; have <= 2; have++) {
                for (int at : Kit.noneOf(have)) {
                    if (at != NONE) {
                        Kit.write(x, GOOD[sort]);
                        due("text(" + sort + ", " + at + ") of " + have, x.text(sort, at), -2);
                    }
                }
                due("count", x.count(sort), have);
                Kit.tell(x, sort, GOOD[sort]);
            }
        }
    }

    private static void textBeyondTheMost() {
        Kit.of("Promise 4, text", "there are as many as may be");
        for (int sort = 0; sort < 3; sort++) {
            AskedNames x = new AskedNames();
            due("the first", Kit.tell(x, sort, GOOD[sort]), 0);
            due("the second", Kit.tell(x, sort, GOOD[sort]), 1);
            due("a third", Kit.tell(x, sort, GOOD[sort]), -2);
            due("count", x.count(sort), 2);
            due("of another sort", Kit.tell(x, (sort + 1) % 3, GOOD[(sort + 1) % 3]), 0);
        }
    }

    private static void textOfNoSort() {
        Kit.of("Promise 4, text", "or no such sort");
        AskedNames x = new AskedNames();
        for (int sort : Kit.noneOf(3)) {
            for (int at = -1; at < 2; at++) {
                due("text(" + sort + ", " + at + ") of no bytes", x.text(sort, at), -2);
            }
        }
        due("nothing is told", x.count(0) + x.count(1) + x.count(2), 0);
    }

    private static void refusedTextIsNotRead() {
        Kit.of("Promise 4, text", "(no text is read then, FAULT 0)");
        int[][] refused = {{0, 2}, {0, -2}, {0, NONE}, {1, 0}, {2, 0}, {3, NONE}, {-1, NONE}};
        for (int[] r : refused) {
            AskedNames x = new AskedNames();
            Kit.tell(x, 0, "");
            Kit.tell(x, 0, "");
            due("a text with a fault", Kit.tell(x, 1, "bad"), NONE);
            due("its FAULT", x.fault(0), 1);
            Kit.write(x, "bad");
            due("text(" + r[0] + ", " + r[1] + ")", x.text(r[0], r[1]), -2);
            due("FAULT", x.fault(0), 0);
            due("its place", x.fault(1), NONE);
        }
    }

    // ---- Promise 5 ------------------------------------------------------------------------------

    private static void faultOfTheLatestText() {
        Kit.of("Promise 5, fault", "Of the latest text(), what 0: the FAULT, 0 without, 1: its place, NONE without.");
        AskedNames x = new AskedNames();
        due("ahead of all texts", x.fault(0), 0);
        due("ahead of all texts", x.fault(1), NONE);
        Kit.tell(x, 0, "life 0;");
        due("FAULT", x.fault(0), 2);
        due("place", x.fault(1), 5);
        Kit.write(x, "life 1;");
        due("feed and end change nothing", x.fault(0) * 100 + x.fault(1), 205);
        x.text(0, NONE);
        due("without", x.fault(0), 0);
        due("without", x.fault(1), NONE);
        Kit.tell(x, 1, "bad");
        due("at place 0", x.fault(0), 1);
        due("at place 0", x.fault(1), 0);
        Kit.tell(x, 0, "room 5 1;");
        due("at the end", x.fault(0), 4);
        due("at the end", x.fault(1), 9);
    }

    private static void faultOfAnotherWhat() {
        Kit.of("Promise 5, fault", "NONE for another what.");
        AskedNames x = new AskedNames();
        for (int round = 0; round < 2; round++) {
            for (int what : Kit.noneOf(2)) {
                due("fault(" + what + ")", x.fault(what), NONE);
            }
            Kit.tell(x, 0, "life 0;");
        }
    }

    // ---- Promise 6 ------------------------------------------------------------------------------

    private static void allOfNet(String text, Map<Integer, Integer> due) {
        AskedNames x = new AskedNames();
        for (int what = -400; what < 800; what++) {
            if (what % 400 == 0) {
                x = new AskedNames();
                due("net: " + text, Kit.tell(x, 0, text), 0);
            }
            due("net(0, " + what + ")", x.net(0, what), due.getOrDefault(what, -2));
        }
        for (int what : Kit.FAR_OUT) {
            due("net(0, " + what + ")", x.net(0, what), -2);
        }
    }

    private static void nets() {
        Kit.of("Promise 6, net", "DELAY (NONE: no LINK; of a NODE to itself, too)");
        AskedNames links = Kit.told("link 0 1 9;", "");
        int[][] pairs = {{101, 9}, {110, 9}, {102, NONE}, {120, NONE}, {112, NONE}, {121, NONE}, {100, NONE}, {111, NONE}, {122, NONE}, {133, -2}, {103, -2}, {130, -2}};
        for (int[] d : pairs) {
            due("net(0, " + d[0] + ")", links.net(0, d[0]), d[1]);
        }
        Kit.of("Promise 6, net", "-2: there is none such (of any), or for another what.");
        greatestNet();
        leastNet();
        AskedNames x = Kit.told("", "");
        for (int many = 1; many <= 2; many++) {
            for (int net : Kit.noneOf(many)) {
                for (int what : new int[] {0, 1, 2, 3, 4, 10, 101}) {
                    due("net(" + net + ", " + what + ")", x.net(net, what), -2);
                }
            }
            due("the last one", x.net(many - 1, 0), 3);
            Kit.tell(x, 0, "");
        }
    }

    private static void greatestNet() {
        StringBuilder text = new StringBuilder("nodes 6;life 99;");
        Map<Integer, Integer> due = new HashMap<>(Map.of(0, 6, 1, 99, 2, 15, 3, 12, 4, 6));
        for (int a = 0; a < 6; a++) {
            text.append("room ").append(a).append(" ").append(a % 5).append(";");
            due.put(10 + a, a % 5);
            due.put(100 + 11 * a, NONE);
            for (int b = 0; b < a; b++) {
                int delay = (a * 7 + b * 5) % 9 + 1;
                text.append("link ").append(a).append(" ").append(b).append(" ").append(delay).append(";");
                due.put(100 + 10 * a + b, delay);
                due.put(100 + 10 * b + a, delay);
            }
        }
        for (int k = 0; k < 12; k++) {
            char letter = (char) ('z' - k);
            text.append("route ").append(k % 6).append(" ").append(letter).append(" ").append((k + 1) % 6).append(" ").append(99 - k).append(";");
            due.put(200 + k, k % 6);
            due.put(220 + k, 26 - k);
            due.put(240 + k, (k + 1) % 6);
            due.put(260 + k, 99 - k);
        }
        for (int k = 0; k < 6; k++) {
            text.append("serve ").append(5 - k).append(" zzz").append((char) ('a' + k)).append(" ").append(19 * k).append(";");
            due.put(300 + k, 5 - k);
            due.put(320 + k, 19682 * 27 + k + 1);
            due.put(340 + k, 19 * k);
        }
        allOfNet(text.toString(), due);
    }

    private static void leastNet() {
        allOfNet("nodes 1;life 1;room 0 0;", Map.of(0, 1, 1, 1, 2, 0, 3, 0, 4, 0, 10, 0, 100, NONE));
        // No link between two that are there is NONE, with one that is not there -2.
        Map<Integer, Integer> due = new HashMap<>(Map.of(0, 2, 1, 20, 2, 0, 3, 0, 4, 0, 10, 2, 11, 2));
        for (int pair : new int[] {100, 101, 110, 111}) {
            due.put(pair, NONE);
        }
        allOfNet("nodes 2;", due);
    }

    private static void whatIsStruck() {
        Kit.of("Promise 6, net, by Term 1", "Later ones strike (nodes, life, room of one NODE, link of the same two, in either row)");
        AskedNames x = Kit.told("nodes 1;nodes 6;nodes 4;life 1;life 99;life 7;room 1 0;room 2 4;room 1 3;"
            + "link 0 1 1;link 2 3 5;link 1 0 9;link 0 1 4;link 3 2 6;", "");
        int[][] due = {{0, 4}, {1, 7}, {10, 2}, {11, 3}, {12, 4}, {2, 2}, {101, 4}, {110, 4}, {123, 6}, {132, 6}};
        for (int[] d : due) {
            due("net(0, " + d[0] + ")", x.net(0, d[0]), d[1]);
        }
        Kit.of("Promise 6, net, by Term 1", "but all others, which are further ones");
        AskedNames y = Kit.told("route 0 a 1 5;route 0 a 1 5;route 0 a 1 6;serve 0 a 1;serve 0 a 1;", "ask 0 a;ask 0 a;");
        due("routes", y.net(0, 3), 3);
        due("serves", y.net(0, 4), 2);
        due("deeds", y.deed(0, NONE, 0), 2);
        Kit.tell(y, 2, "lost 0;lost 0;got 0 1;");
        due("facts", y.fact(0, NONE, 0), 3);
    }

    /** A text is read as if it were the first, whatever was told, or could not be told, before. */
    private static void nothingStaysOfFormerTexts() {
        Kit.of("Promise 4, text", "as a text of a sort, a further one (at NONE), or in the place of one: its number");
        String great = "nodes 6;life 9;room 0 4;link 0 5 1;" + "route 0 a 1 0;".repeat(12) + "serve 5 a 1;".repeat(6);
        AskedNames x = new AskedNames();
        for (String former : new String[] {great, "room 5 1;", great + "serve 0 a 1;", great + "bad", "nodes 6;link 4 5 1;life 0;"}) {
            x = new AskedNames();
            Kit.tell(x, 0, former);
            int at = Kit.tell(x, 0, "");
            for (int round = 0; round < 2; round++) {
                int[] due = {3, 20, 0, 0, 0};
                for (int what = 0; what < 5; what++) {
                    due("net, what " + what + ", behind " + former, x.net(at, what), due[what]);
                }
                due("room", x.net(at, 10), 2);
                due("no link", x.net(at, 101), NONE);
                due("no route, serve", x.net(at, 200) + x.net(at, 300), -4);
                // In the place of a great one, too.
                Kit.write(x, great);
                due("a great one", x.text(0, at), at);
                Kit.write(x, "");
                due("in its place", x.text(0, at), at);
            }
        }
        Kit.tell(x, 1, "wait 1;".repeat(40));
        Kit.tell(x, 1, "wait 2;");
        due("deeds", x.deed(1, NONE, 0), 1);
        Kit.tell(x, 2, "lost 1;".repeat(9));
        due("a log behind one too many", Kit.tell(x, 2, "lost 1;".repeat(8)), 0);
        Kit.tell(x, 2, "got 1 2;");
        due("facts", x.fact(1, NONE, 0), 1);
    }

    // ---- Promises 7 and 18 ----------------------------------------------------------------------

    private static void deeds() {
        Kit.of("Promise 7, deed", "NONE without");
        AskedNames one = Kit.told("", "wait 1;cut 1 0;ask 0 a;");
        due("a wait has one number", one.deed(0, 0, 2), NONE);
        due("a cut has two", one.deed(0, 1, 2), 0);
        due("an ask has a name", one.deed(0, 2, 2), 1);
        Kit.of("Promise 7, deed", "-2: there is none such (of either), or for another what.");
        StringBuilder text = new StringBuilder();
        int[][] due = new int[40][];
        for (int k = 0; k < 40; k++) {
            int node = k % 6;
            int other = (k + 1) % 6;
            switch (k % 5) {
                case 0 -> text.append("ask ").append(node).append(" a;");
                case 1 -> text.append("fresh ").append(node).append(" zz;");
                case 2 -> text.append("wait ").append(k / 2 + 1).append(";");
                case 3 -> text.append("cut ").append(node).append(" ").append(other).append(";");
                default -> text.append("mend ").append(node).append(" ").append(other).append(";");
            }
            int first = k % 5 == 2 ? k / 2 + 1 : node;
            int[] second = {1, 728, NONE, other, other};
            due[k] = new int[] {k % 5, first, second[k % 5]};
        }
        allOfDeeds(text.toString(), due);
        allOfDeeds("", new int[0][]);
        AskedNames x = Kit.told("", "wait 1;");
        for (int many = 1; many <= 2; many++) {
            for (int run : Kit.noneOf(many)) {
                due("how many of run " + run, x.deed(run, NONE, 0), -2);
                due("deed 0 of run " + run, x.deed(run, 0, 0), -2);
            }
            due("the last one", x.deed(many - 1, NONE, 0), 1);
            Kit.tell(x, 1, "wait 2;");
        }
    }

    private static void allOfDeeds(String text, int[][] due) {
        AskedNames x = Kit.told("", text);
        for (int what = -5; what < 5; what++) {
            due("deed(0, NONE, " + what + ")", x.deed(0, NONE, what), what == 0 ? due.length : -2);
            for (int k = 0; k < due.length; k++) {
                due("deed(0, " + k + ", " + what + ")", x.deed(0, k, what), what < 0 || what > 2 ? -2 : due[k][what]);
            }
            for (int k : Kit.noneOf(due.length)) {
                if (k != NONE) {
                    due("deed(0, " + k + ", " + what + ")", x.deed(0, k, what), -2);
                }
            }
        }
        x = Kit.told("", text);
        for (int what : Kit.FAR_OUT) {
            due("deed(0, NONE, " + what + ")", x.deed(0, NONE, what), -2);
            due("deed(0, 0, " + what + ")", x.deed(0, 0, what), -2);
        }
    }

    private static void facts() {
        Kit.of("Promise 18, fact", "-2: there is none such (of either), or for another what.");
        allOfFacts("got 39 99;got 0 0;lost 39;lost 0;got 1 2;lost 3;got 4 5;got 6 7;",
            new int[][] {{39, 99}, {0, 0}, {39, NONE}, {0, NONE}, {1, 2}, {3, NONE}, {4, 5}, {6, 7}});
        allOfFacts("", new int[0][]);
        Kit.of("Promise 18, fact", "of FACT k, what 0: the DEED, 1: the minute (NONE: lost)");
        AskedNames y = new AskedNames();
        Kit.tell(y, 2, "lost 0;got 0 0;");
        due("lost", y.fact(0, 0, 1), NONE);
        due("got in minute 0", y.fact(0, 1, 1), 0);
        Kit.of("Promise 18, fact", "-2: there is none such (of either), or for another what.");
        AskedNames x = new AskedNames();
        Kit.tell(x, 2, "lost 0;");
        for (int many = 1; many <= 2; many++) {
            for (int log : Kit.noneOf(many)) {
                due("how many of log " + log, x.fact(log, NONE, 0), -2);
                due("fact 0 of log " + log, x.fact(log, 0, 0), -2);
            }
            due("the last one", x.fact(many - 1, NONE, 0), 1);
            Kit.tell(x, 2, "lost 1;");
        }
    }

    private static void allOfFacts(String text, int[][] due) {
        AskedNames x = new AskedNames();
        Kit.tell(x, 2, text);
        for (int what = -5; what < 9; what++) {
            due("fact(0, NONE, " + what + ")", x.fact(0, NONE, what), what == 0 ? due.length : -2);
            for (int k = 0; k < due.length; k++) {
                due("fact(0, " + k + ", " + what + ")", x.fact(0, k, what), what < 0 || what > 1 ? -2 : due[k][what]);
            }
            for (int k : Kit.noneOf(due.length)) {
                if (k != NONE) {
                    due("fact(0, " + k + ", " + what + ")", x.fact(0, k, what), -2);
                }
            }
        }
        for (int what : Kit.FAR_OUT) {
            due("fact(0, NONE, " + what + ")", x.fact(0, NONE, what), -2);
            due("fact(0, 0, " + what + ")", x.fact(0, 0, what), -2);
        }
    }

    // ---- Promises 23 to 25 ----------------------------------------------------------------------

    private static void counts() {
        Kit.of("Promise 23, count", "How many there are of a sort. -2 for another one.");
        AskedNames x = new AskedNames();
        int[] have = new int[3];
        for (int sort : new int[] {2, 0, 0, 1, 2, 1, 0, 1, 2}) {
            for (int s = 0; s < 3; s++) {
                due("count(" + s + ")", x.count(s), have[s]);
            }
            for (int s : Kit.noneOf(3)) {
                due("count(" + s + ")", x.count(s), -2);
            }
            Kit.tell(x, sort, GOOD[sort]);
            have[sort] = Math.min(2, have[sort] + 1);
        }
    }

    private static void imagesOfThree() {
        Kit.of("Promise 24, image", "Image k (0 .. 2) is all that is told");
        AskedNames x = new AskedNames();
        Kit.tell(x, 0, "");
        for (int k = 0; k < 3; k++) {
            Kit.write(x, "life " + (k + 1) + ";");
            x.text(0, 0);
            Kit.due("image(" + k + ")", x.image(k), true);
        }
        for (int k : new int[] {1, 0, 2, 2, 1}) {
            Kit.due("again(" + k + ")", x.again(k), true);
            due("life", x.net(0, 1), k + 1);
        }
        Kit.of("Promise 24, image", "false for another k");
        for (int k : Kit.noneOf(3)) {
            Kit.due("image(" + k + ")", x.image(k), false);
            Kit.due("again(" + k + ")", x.again(k), false);
        }
        due("nothing is changed", x.net(0, 1), 2);
        x.again(0);
        due("nor in the images", x.net(0, 1), 1);
    }

    private static void imageOfAll() {
        Kit.of("Promise 24, image", "(the tape, the FAULT, too)");
        AskedNames x = new AskedNames();
        Kit.tell(x, 0, "nodes 5;link 4 3 2;route 1 b 2 3;serve 4 c 5;room 2 1;life 6;");
        Kit.tell(x, 0, "nodes 1;");
        Kit.tell(x, 1, "ask 1 b;wait 4;");
        Kit.tell(x, 2, "got 1 2;");
        Kit.tell(x, 2, "lost 3;");
        Kit.tell(x, 1, "wait 21;");
        Kit.write(x, "wait 7;wait 8;");
        Kit.due("image", x.image(2), true);
        x.end(0);
        for (int sort = 0; sort < 3; sort++) {
            Kit.tell(x, sort, "");
            for (int at = 0; at < 2; at++) {
                x.text(sort, at);
            }
        }
        Kit.write(x, "nodes 1;nodes 1;nodes 1;");
        Kit.due("again", x.again(2), true);
        due("FAULT", x.fault(0), 2);
        due("place", x.fault(1), 5);
        int[][] net = {{0, 5}, {1, 6}, {2, 1}, {3, 1}, {4, 1}, {12, 1}, {13, 2}, {134, 2}, {143, 2}, {200, 1}, {220, 2},
            {240, 2}, {260, 3}, {300, 4}, {320, 3}, {340, 5}};
        for (int[] d : net) {
            due("net(0, " + d[0] + ")", x.net(0, d[0]), d[1]);
        }
        due("the second net", x.net(1, 0), 1);
        due("counts", x.count(0) * 100 + x.count(1) * 10 + x.count(2), 212);
        due("deeds", x.deed(0, NONE, 0), 2);
        due("the ask", x.deed(0, 0, 2), 2);
        due("the wait", x.deed(0, 1, 1), 4);
        due("the first log", x.fact(0, 0, 1), 2);
        due("the second log", x.fact(1, 0, 0), 3);
        due("the tape's bytes, no more", x.end(15), NONE);
        due("the tape", x.text(1, NONE), 1);
        due("the tape's first deed", x.deed(1, 0, 1), 7);
        due("the tape's second deed", x.deed(1, 1, 1), 8);
    }

    private static void imageAsItWasThen() {
        Kit.of("Promise 25, again", "All that is as image k has it: true");
        AskedNames x = new AskedNames();
        x.image(0);
        Kit.tell(x, 0, "life 5;");
        x.image(1);
        Kit.write(x, "life 6;");
        x.text(0, 0);
        due("the image of one is its own", x.net(0, 1), 6);
        x.again(1);
        due("life", x.net(0, 1), 5);
        Kit.write(x, "life 7;");
        x.text(0, 0);
        x.again(1);
        due("the image stays behind again()", x.net(0, 1), 5);
        x.again(0);
        due("nothing was told then", x.count(0), 0);
        due("a first one once more", Kit.tell(x, 0, "life 8;"), 0);
        x.image(1);
        x.again(0);
        x.again(1);
        due("a later image in its place", x.net(0, 1), 8);
    }

    private static void againWithoutImage() {
        Kit.of("Promise 25, again", "false if there is none such");
        for (int made = 0; made < 3; made++) {
            AskedNames x = new AskedNames();
            Kit.tell(x, 0, "life 5;");
            Kit.write(x, "life 6;");
            x.image(made);
            x.text(0, 0);
            for (int k = -2; k < 5; k++) {
                if (k != made) {
                    Kit.due("again(" + k + ")", x.again(k), false);
                    due("nothing is changed", x.net(0, 1), 6);
                }
            }
            for (int k : Kit.FAR_OUT) {
                Kit.due("again(" + k + ")", x.again(k), false);
            }
            Kit.due("again(" + made + ")", x.again(made), true);
            due("life", x.net(0, 1), 5);
        }
    }

    // ---- What it is -----------------------------------------------------------------------------

    private static void useOf512Calls() {
        Kit.of("All promises", "An object is used for at most 512 calls after it has been made");
        AskedNames x = new AskedNames();
        for (int round = 0; round < 64; round++) {
            // "life NN;", eight calls a round.
            int digits = (round / 10 + '0') << 24 | (round % 10 + '0') << 16 | 0x3b20;
            int life = round == 0 ? NONE : round;
            due("feed", x.feed(0x6c696665, 0x20202020, digits, BLANKS, BLANKS), 20);
            due("end", x.end(20), 20);
            due("text", x.text(0, round < 2 ? NONE : 0), round == 0 ? NONE : 0);
            due("life", x.net(0, 1), round == 0 ? -2 : life);
            Kit.due("image", x.image(round % 3), true);
            Kit.due("again", x.again(round % 3), true);
            due("alone", x.alone(0, 0, 1, 0, 0), round == 0 ? -2 : 2);
            due("count", x.count(0), round == 0 ? 0 : 1);
        }
    }
}
