/** Promises 13 to 17, 19, 20 and 22: what a net brings as told, which links fit a log, what is drawn by a seed. */
public final class TablesTest {

    private static final int NONE = AskedNames.NONE;
    private static final int[] NO_NAMES = {0, -1, 27, 54, 27 * 27 + 1, 27 * 27 * 27 + 28, 531441, Integer.MAX_VALUE, Integer.MIN_VALUE};

    private static final String SQUARE = "nodes 4;link 0 1 2;link 1 2 3;link 0 3 1;link 3 2 4;route 0 a 1 5;route 0 a 3 9;"
        + "route 1 a 2 1;route 3 a 2 1;route 0 ab 3 2;serve 2 a 5;serve 2 abc 50;room 0 1;";
    private static final String DAY = "ask 0 ac;ask 0 ac;wait 5;wait 5;ask 0 ac;ask 0 b;fresh 1 ac;wait 6;fresh 1 ac;"
        + "cut 1 2;ask 0 abc;wait 10;ask 0 ad;wait 2;wait 2;wait 15;";
    private static final String RING = "nodes 3;link 0 1 1;link 1 2 1;link 2 0 1;route 0 a 1 0;route 1 a 2 0;route 2 a 0 0;"
        + "route 2 a 0 0;route 2 a 1 0;";

    public static void main(String[] args) {
        alone();
        table();
        ways();
        trails();
        far();
        fits();
        fitsWithoutAnAsk();
        fitsOfDeedsThatAreNoAsks();
        drawnWaits();
        drawnCuts();
        drawnAsks();
        drawnWrongly();
        edges();
        Kit.finish();
    }

    private static void due(String call, int got, int want) {
        Kit.due(call, got, want);
    }

    private static AskedNames of(String net) {
        return Kit.told(net, "");
    }

    private static void alone(AskedNames x, int node, String name, int wish, int... want) {
        for (int what = 0; what < 3; what++) {
            due("alone(0, " + node + ", " + name + ", " + wish + ", " + what + ")", x.alone(0, node, Kit.name(name), wish, what), want[what]);
        }
    }

    private static void alone() {
        AskedNames x = of(SQUARE);
        alone(x, 0, "ac", 0, 1, 10, 4);
        alone(x, 0, "ab", 0, 1, 10, 4);
        alone(x, 1, "a", 1, 1, 6, 2);
        alone(x, 2, "azzz", 1, 1, 0, 0);
        alone(x, 0, "b", 0, 2, 0, 0);
        alone(of(RING), 0, "a", 0, 2, 6, 6);
        AskedNames y = of("nodes 2;life 99;link 0 1 1;route 0 a 1 0;serve 1 a 0;");
        alone(y, 0, "a", 0, 1, 2, 2);
        alone(y, 0, "a", 1, 3, 99, 2);
        for (int name : NO_NAMES) {
            due("alone, no name " + name, x.alone(0, 0, name, 0, 0), -2);
        }
        due("alone, the greatest name", x.alone(0, 0, 531440, 0, 0), 2);
        due("alone, wish 2", x.alone(0, 0, 1, 2, 0), -2);
        due("alone, wish -1", x.alone(0, 0, 1, -1, 0), -2);
        due("alone, node 4", x.alone(0, 4, 1, 0, 0), -2);
        due("alone, node -1", x.alone(0, -1, 1, 0, 0), -2);
        due("alone, net 1", x.alone(1, 0, 1, 0, 0), -2);
        due("alone, what 3", x.alone(0, 0, 1, 0, 3), -2);
        due("alone, what -1", x.alone(0, 0, 1, 0, -1), -2);
    }

    private static void table() {
        AskedNames x = of(SQUARE);
        due("rows at 0", x.table(0, 0, 0), 2);
        due("routes at 0", x.table(0, 0, 1), 3);
        due("rows at 2", x.table(0, 2, 0), 0);
        due("routes at 2", x.table(0, 2, 1), 0);
        AskedNames y = of("route 0 abcd 1 0;route 0 abx 1 0;route 0 b 1 0;route 0 bcd 2 0;route 1 zz 0 0;route 0 ab 2 0;");
        due("rows", y.table(0, 0, 0), 8);
        due("routes", y.table(0, 0, 1), 5);
        due("rows", y.table(0, 1, 0), 2);
        due("rows of another node count not", of("route 1 ab 0 0;route 0 ab 1 0;").table(0, 0, 0), 2);
        due("what 2", x.table(0, 0, 2), NONE);
        due("what -1", x.table(0, 0, -1), NONE);
        due("node 4", x.table(0, 4, 0), NONE);
        due("node -1", x.table(0, -1, 0), NONE);
        due("net 1", x.table(1, 0, 0), NONE);
    }

    private static void ways(AskedNames x, int node, String name, int bits, int letters) {
        due("ways of " + name, x.ways(0, node, Kit.name(name), false), bits);
        due("letters of " + name, x.ways(0, node, Kit.name(name), true), letters);
    }

    private static void ways() {
        AskedNames x = of(SQUARE);
        ways(x, 0, "a", 10, 1);
        ways(x, 0, "az", 10, 1);
        ways(x, 0, "ab", 8, 2);
        ways(x, 0, "abcd", 8, 2);
        ways(x, 0, "b", 0, 0);
        ways(x, 2, "a", 0, 0);
        ways(of("route 0 ab 1 0;route 0 a 2 0;link 0 2 1;"), 0, "abc", 0, 2);
        for (int name : NO_NAMES) {
            due("ways, no name " + name, x.ways(0, 0, name, false), NONE);
            due("letters, no name " + name, x.ways(0, 0, name, true), NONE);
        }
        due("ways, node 4", x.ways(0, 4, 1, false), NONE);
        due("ways, node -1", x.ways(0, -1, 1, true), NONE);
        due("ways, net 1", x.ways(1, 0, 1, false), NONE);
    }

    private static void trail(AskedNames x, String name, int ending, int... nodes) {
        int n = Kit.name(name);
        due("trail of " + name, x.trail(0, nodes[0], n, NONE), nodes.length);
        for (int k = 0; k < nodes.length; k++) {
            due("trail of " + name + ", " + k, x.trail(0, nodes[0], n, k), nodes[k]);
        }
        due("trail, not so many", x.trail(0, nodes[0], n, nodes.length), NONE);
        due("trail, k -2", x.trail(0, nodes[0], n, -2), NONE);
        due("trail, k 19", x.trail(0, nodes[0], n, 19), NONE);
        due("trail, k 21", x.trail(0, nodes[0], n, 21), NONE);
        due("how the trail of " + name + " ends", x.trail(0, nodes[0], n, 20), ending);
    }

    private static void trails() {
        AskedNames x = of(SQUARE);
        trail(x, "a", 1, 0, 1, 2);
        trail(x, "abc", 1, 0, 3, 2);
        trail(x, "b", 2, 0);
        trail(x, "a", 1, 2);
        AskedNames ring = of(RING);
        trail(ring, "a", 3, 0, 1, 2, 0);
        trail(ring, "a", 3, 1, 2, 0, 1);
        trail(ring, "a", 3, 2, 0, 1, 2);
        trail(of("link 0 1 1;route 0 a 1 0;route 1 a 0 0;"), "a", 2, 0, 1);
        trail(of("route 0 a 1 0;"), "a", 2, 0);
        trail(of("nodes 6;link 0 1 1;link 1 2 1;link 2 3 1;link 3 4 1;link 4 5 1;link 5 0 1;route 0 a 1 0;route 1 a 2 0;"
            + "route 2 a 3 0;route 3 a 4 0;route 4 a 5 0;route 5 a 0 0;"), "aa", 3, 0, 1, 2, 3, 4, 5, 0);
        for (int name : NO_NAMES) {
            due("trail, no name " + name, x.trail(0, 0, name, NONE), NONE);
            due("trail, no name " + name, x.trail(0, 0, name, 20), NONE);
        }
        due("trail, node 4", x.trail(0, 4, 1, NONE), NONE);
        due("trail, node -1", x.trail(0, -1, 1, 20), NONE);
        due("trail, net 1", x.trail(1, 0, 1, NONE), NONE);
    }

    private static void far() {
        AskedNames x = of(SQUARE);
        due("far 0 2", x.far(0, 0, 2), 5);
        due("far 2 0", x.far(0, 2, 0), 5);
        due("far 1 3", x.far(0, 1, 3), 3);
        due("far 3 3", x.far(0, 3, 3), 0);
        AskedNames y = of("nodes 6;link 4 5 9;link 3 4 9;link 2 3 9;link 1 2 9;link 0 1 9;");
        due("far 0 5", y.far(0, 0, 5), 45);
        due("far 5 0", y.far(0, 5, 0), 45);
        AskedNames z = of("nodes 4;link 0 1 9;link 0 2 1;link 2 1 2;");
        due("a way round", z.far(0, 0, 1), 3);
        due("no way", z.far(0, 0, 3), NONE);
        due("far, node 4", z.far(0, 0, 4), NONE);
        due("far, node 4 to itself", z.far(0, 4, 4), NONE);
        due("far, node -1", z.far(0, -1, 0), NONE);
        due("far, net 1", z.far(1, 0, 0), NONE);
    }

    private static void fits(String log, int ask, int... links) {
        AskedNames x = Kit.told(SQUARE, DAY);
        Kit.tell(x, 2, log);
        due("fits of " + log, x.fits(0, 0, 0, 0), links.length);
        due("ask of " + log, x.fits(0, 0, 0, 1), ask);
        for (int k = 0; k < links.length; k++) {
            due("fit " + k + " of " + log, x.fits(0, 0, 0, 10 + k), links[k]);
        }
        due("no further one", x.fits(0, 0, 0, 10 + links.length), -2);
        for (int what : new int[] {-1, 2, 9, 26, Integer.MAX_VALUE, Integer.MIN_VALUE}) {
            due("fits, what " + what, x.fits(0, 0, 0, what), -2);
        }
        due("fits, net 1", x.fits(1, 0, 0, 0), -2);
        due("fits, run 1", x.fits(0, 1, 0, 0), -2);
        due("fits, log 1", x.fits(0, 0, 1, 0), -2);
        due("fits, log -1", x.fits(0, 0, -1, 0), -2);
    }

    private static void fits() {
        fits("got 0 10;got 10 26;", 8, NONE, 0);
        fits("lost 10;", 6, 1, 2, 3);
        fits("got 0 14;", 0, 1);
        fits("got 0 11;", NONE);
        fits("got 0 10;lost 0;", NONE);
        AskedNames x = Kit.told(SQUARE, DAY);
        Kit.tell(x, 2, "");
        due("all fit", x.fits(0, 0, 0, 0), 5);
        for (int k = 0; k < 5; k++) {
            due("all fit, " + k, x.fits(0, 0, 0, 10 + k), k - 1);
        }
        // Links by numbers as they were told of first, though a later one struck.
        AskedNames y = Kit.told("link 0 1 1;link 1 2 1;link 1 0 2;route 0 a 1 0;serve 1 a 1;", "ask 0 a;wait 9;");
        Kit.tell(y, 2, "lost 0;");
        due("one fits", y.fits(0, 0, 0, 0), 1);
        due("the first link", y.fits(0, 0, 0, 10), 0);
    }

    private static void fitsWithoutAnAsk() {
        AskedNames x = Kit.told(SQUARE, "wait 1;cut 0 1;");
        Kit.tell(x, 2, "");
        due("all fit", x.fits(0, 0, 0, 0), 5);
        due("there is no ask", x.fits(0, 0, 0, 1), NONE);
        // An ask that was not done got nothing.
        AskedNames y = Kit.told(SQUARE, "mend 0 1;ask 2 a;");
        Kit.tell(y, 2, "lost 1;");
        due("all fit", y.fits(0, 0, 0, 0), 5);
        due("the only ask", y.fits(0, 0, 0, 1), 1);
    }

    private static void fitsOfDeedsThatAreNoAsks() {
        fits("got 2 5;", NONE);
        fits("got 39 0;", NONE);
        fits("got 0 10;got 10 26;lost 2;lost 39;", 8, NONE, 0);
    }

    /** The numbers of a seed, once more. */
    private static final class Numbers {
        private long x;

        Numbers(int seed) {
            x = seed & 0xffffffffL;
        }

        int below(int n) {
            x = (x * 1103515245L + 12345L) % (1L << 32);
            return (int) (x / 65536 % n);
        }
    }

    private static void drawnWaits() {
        // Names of four letters get no letter more, but its number is drawn; without links 9 draws no more.
        AskedNames x = of("nodes 1;serve 0 abcd 3;");
        AskedNames bare = of("nodes 1;");
        int skipped = 0;
        for (int seed = -200; seed < 400; seed++) {
            Numbers a = new Numbers(seed * 7919);
            Numbers b = new Numbers(seed * 7919);
            int first = 0;
            int second = 0;
            for (int time = 0; time < 60; time++) {
                int kind = a.below(10);
                if (kind <= 4) {
                    a.below(1);
                    a.below(1);
                    a.below(3);
                } else if (kind <= 8) {
                    int minutes = 1 + a.below(5);
                    skipped += first + minutes > 99 ? 1 : 0;
                    first += first + minutes > 99 ? 0 : minutes;
                }
                int other = b.below(10);
                if (other >= 5 && other <= 8) {
                    int minutes = 1 + b.below(5);
                    second += second + minutes > 99 ? 0 : minutes;
                }
                if (time % 20 == 19) {
                    due("drawn minutes", x.drawn(0, seed * 7919, time + 1, 0), first);
                    due("drawn minutes without serves", bare.drawn(0, seed * 7919, time + 1, 0), second);
                }
            }
        }
        Kit.due("some waits were beyond the end", skipped > 0, true);
    }

    private static void drawnCuts() {
        AskedNames x = of("nodes 4;link 0 1 1;link 1 2 1;link 2 3 1;");
        for (int seed = 0; seed < 200; seed++) {
            Numbers a = new Numbers(seed);
            int down = 0;
            for (int time = 0; time < 60; time++) {
                int kind = a.below(10);
                if (kind >= 5 && kind <= 8) {
                    a.below(5);
                } else if (kind == 9) {
                    down ^= 1 << a.below(3);
                }
            }
            due("drawn links that are down", x.drawn(0, seed, 60, 3), Integer.bitCount(down));
        }
    }

    private static void drawnAsks() {
        // One node asks, the other serves; no time goes by but by waits, so entries stand as drawn.
        AskedNames x = of("nodes 2;life 99;link 0 1 9;route 0 a 1 0;route 0 b 1 0;serve 1 a 1;serve 1 b 1;");
        for (int seed = 0; seed < 300; seed++) {
            Numbers a = new Numbers(seed);
            java.util.Set<String> entries = new java.util.HashSet<>();
            int asks = 0;
            for (int time = 0; time < 60; time++) {
                int kind = a.below(10);
                if (kind > 4) {
                    break;
                }
                int node = a.below(2);
                String name = (a.below(2) == 0 ? "a" : "b") + new String[] {"", "a", "b"}[a.below(3)];
                if (node == 0) {
                    entries.add(name + (kind == 4 ? "!" : ""));
                }
                asks++;
            }
            due("drawn entries", x.drawn(0, seed, asks, 2), entries.size());
            due("drawn messages", x.drawn(0, seed, asks, 1), entries.size());
            due("drawn entries at 0", x.drawn(0, seed, asks, 10), entries.size());
        }
        // A name of four letters gets no fifth one.
        AskedNames y = of("nodes 2;life 99;link 0 1 9;route 0 abcd 1 0;serve 1 abcd 1;");
        for (int seed = 0; seed < 300; seed++) {
            Kit.due("drawn entries of one name", y.drawn(0, seed, 60, 10) <= 2, true);
        }
    }

    private static void drawnWrongly() {
        AskedNames x = of(SQUARE);
        due("drawn 0 times", x.drawn(0, 1, 0, 0), 0);
        due("drawn -1 times", x.drawn(0, 1, -1, 0), -2);
        due("drawn 61 times", x.drawn(0, 1, 61, 0), -2);
        due("drawn, net 1", x.drawn(1, 1, 5, 0), -2);
        due("drawn, net -1", x.drawn(-1, 1, 5, 0), -2);
        for (int what : new int[] {-1, 4, 9, 14, 24, 34, 40, 104, 140}) {
            due("drawn, what " + what, x.drawn(0, 1, 5, what), -2);
        }
        due("drawn, measured of itself", x.drawn(0, 1, 60, 111), NONE);
    }

    private static void edges(String net, int... want) {
        AskedNames x = of(net);
        for (int what = 0; what < 5; what++) {
            due("edges(0, " + what + ") of " + net, x.edges(0, what), want[what]);
        }
        due("edges(0, 5)", x.edges(0, 5), NONE);
        due("edges(0, -1)", x.edges(0, -1), NONE);
        due("edges(1, 0)", x.edges(1, 0), NONE);
        due("edges(-1, 0)", x.edges(-1, 0), NONE);
    }

    private static void edges() {
        edges("", 0, 0, 0, 0, 0);
        edges(SQUARE, 4, 0, 0, 0, 2);
        edges(RING, 0, 0, 0, 8, 0);
        edges("nodes 4;link 0 1 1;link 1 2 1;route 0 a 1 0;route 0 a 2 0;route 3 a 1 0;route 0 a 1 9;route 0 ab 1 0;"
            + "serve 0 ab 1;serve 0 a 1;serve 1 ab 1;serve 0 ab 2;", 3, 5, 6, 8, 9);
    }
}
