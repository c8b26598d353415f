import java.util.HashSet;
import java.util.Set;

/** Promises 13 to 17, 19, 20 and 22, with Terms 3 to 5: each sentence that names a bound has a test of its own. */
public final class BoundsOfTablesTest {

    private static final int NONE = AskedNames.NONE;
    private static final String PAIR = "nodes 2;link 0 1 1;route 0 a 1 0;serve 1 a 9;";
    private static final String STAR_LINKS = "nodes 6;link 0 1 1;link 0 2 1;link 0 3 1;link 0 4 1;link 0 5 1;";
    private static final String RING = "nodes 6;life 99;link 0 1 1;link 1 2 1;link 2 3 1;link 3 4 1;link 4 5 1;link 5 0 1;"
        + "route 0 a 1 0;route 1 a 2 0;route 2 a 3 0;route 3 a 4 0;route 4 a 5 0;route 5 a 0 0;";
    private static final String ALL_LINKS = "nodes 6;link 5 4 1;link 0 2 1;link 0 3 1;link 0 4 1;link 0 5 1;link 1 2 1;link 1 3 1;"
        + "link 1 4 1;link 1 5 1;link 2 3 1;link 2 4 1;link 2 5 1;link 3 4 1;link 3 5 1;link 1 0 1;";

    /** Numbers and whether they are names: 1 to 26 a letter, by 27s, no letter 0, four letters at the most. */
    private static final int[] NAMES = {1, 2, 25, 26, 28, 53, 55, 728, 757, 19682, 20440, 531439, 531440};
    private static final int[] NO_NAMES = {Integer.MIN_VALUE, -28, -27, -1, 0, 27, 54, 702, 729, 730, 756, 19683, 19684, 20439, 20412,
        531414, 531441, 531442, 14348906, Integer.MAX_VALUE};

    public static void main(String[] args) {
        alones();
        tables();
        ways();
        trails();
        far();
        fits();
        drawns();
        edges();
        Kit.finish();
    }

    private static void due(String call, int got, int want) {
        Kit.due(call, got, want);
    }

    private static AskedNames of(String net) {
        AskedNames x = new AskedNames();
        due("net: " + net, Kit.tell(x, 0, net), 0);
        return x;
    }

    // ---- Promise 13 -----------------------------------------------------------------------------

    private static void alones() {
        aloneAtOnce();
        aloneUpTo99();
        aloneOfNoName();
        aloneOfNone();
    }

    private static void alone(AskedNames x, int node, int name, int wish, int... want) {
        for (int what = 0; what < 3; what++) {
            due("alone(0, " + node + ", " + name + ", " + wish + ", " + what + ")", x.alone(0, node, name, wish, what), want[what]);
        }
    }

    private static void aloneAtOnce() {
        Kit.of("Promise 13, alone, by Term 3", "nothing but that ask at minute 0");
        AskedNames x = Kit.told(PAIR, "ask 0 a;wait 5;cut 0 1;");
        for (int round = 0; round < 2; round++) {
            // What runs did, and what was asked for alone before, leaves nothing behind.
            alone(x, 0, 1, 0, 1, 2, 2);
            alone(x, 0, 1, 1, 1, 2, 2);
            alone(x, 1, 1, 0, 1, 0, 0);
            alone(x, 1, 28, 1, 1, 0, 0);
            alone(x, 0, 2, 0, 2, 0, 0);
            due("a run between", x.stop(0, 0), 3);
        }
        alone(of("nodes 1;"), 0, 1, 0, 2, 0, 0);
        alone(of("nodes 1;serve 0 a 0;"), 0, 1, 1, 1, 0, 0);
    }

    private static void aloneUpTo99() {
        Kit.of("Promise 13, alone, by Term 3", "and minutes up to 99: what came of it, when, how many MESSAGES were sent");
        for (int life : new int[] {1, 2, 20, 98, 99}) {
            // Stale data come for no entry, so it runs out.
            String net = "nodes 2;life " + life + ";link 0 1 9;route 0 a 1 0;serve 1 a 0;";
            alone(of(net), 0, 1, 1, 3, life, 2);
        }
        // All ways take nine minutes: the last nack but one comes in minute 99, and sends one more then.
        String slow = "nodes 6;life 99;link 0 1 9;link 0 2 9;link 0 3 9;link 0 4 9;link 0 5 9;link 4 5 9;"
            + "route 0 a 1 0;route 0 a 2 0;route 0 a 3 0;route 0 a 4 0;route 0 a 5 0;route 5 a 4 0;";
        alone(of(slow), 0, 1, 0, 3, 99, 12);
        alone(of(slow), 5, 1, 0, 2, 18, 2);
        // The last nack would come to 5 in minute 100: nothing is sent by it any more.
        String slower = "nodes 6;life 99;link 0 1 9;link 1 2 9;link 1 3 9;link 1 4 9;link 4 2 9;link 1 5 5;link 5 3 7;"
            + "route 0 a 1 0;route 1 a 2 0;route 1 a 3 1;route 1 a 4 2;route 1 a 5 3;route 4 a 2 0;route 5 a 3 0;";
        alone(of(slower), 0, 1, 0, 3, 99, 12);
        alone(of(slower.replace("link 1 5 5;", "link 1 5 4;")), 0, 1, 0, 3, 99, 13);
        alone(of(RING), 0, 1, 0, 2, 12, 12);
        Kit.of("Promise 13, alone", "1: the minute (NONE: 0)");
        alone(of("nodes 1;serve 0 a 0;"), 0, 1, 0, 1, 0, 0);
        alone(of(PAIR + "life 1;"), 0, 1, 0, 3, 1, 2);
    }

    private static void aloneOfNoName() {
        Kit.of("Promise 13, alone", "(of either; a number that is no NAME)");
        AskedNames x = of(PAIR);
        for (int name : NAMES) {
            Kit.due("alone of the name " + name, x.alone(0, 0, name, 0, 0) != -2, true);
        }
        for (int name : NO_NAMES) {
            for (int what = 0; what < 3; what++) {
                due("alone of " + name + ", no name", x.alone(0, 1, name, 0, what), -2);
            }
        }
    }

    private static void aloneOfNone() {
        Kit.of("Promise 13, alone", "another WISH, or for another what");
        AskedNames x = of(PAIR);
        for (int k : Kit.noneOf(2)) {
            due("node " + k, x.alone(0, k, 1, 0, 0), -2);
            due("wish " + k, x.alone(0, 0, 1, k, 0), -2);
        }
        for (int what : Kit.noneOf(3)) {
            due("what " + what, x.alone(0, 0, 1, 0, what), -2);
        }
        for (int many = 1; many <= 2; many++) {
            for (int net : Kit.noneOf(many)) {
                due("net " + net, x.alone(net, 0, 1, 0, 0), -2);
            }
            due("the last one", x.alone(many - 1, 0, 1, 0, 0), 1);
            Kit.tell(x, 0, PAIR);
        }
    }

    // ---- Promise 14 -----------------------------------------------------------------------------

    private static void table(String net, int node, int rows, int routes) {
        AskedNames x = of(net);
        due("rows at " + node + " of " + net, x.table(0, node, 0), rows);
        due("routes at " + node + " of " + net, x.table(0, node, 1), routes);
    }

    private static void tables() {
        Kit.of("Promise 14, table, by Term 3", "how many unlike rows of letters its BEGINNINGS of ROUTES begin with (each of itself, too)");
        table("", 0, 0, 0);
        table("route 1 abcd 0 0;", 0, 0, 0);
        table("route 0 a 1 0;", 0, 1, 1);
        table("route 0 abcd 1 0;", 0, 4, 1);
        table("route 0 a 1 0;route 0 a 2 0;route 0 a 1 0;", 0, 1, 3);
        table("route 0 a 1 0;route 0 ab 1 0;route 0 abc 1 0;route 0 abcd 1 0;", 0, 4, 4);
        table("route 0 abcd 1 0;route 0 abc 1 0;route 0 ab 1 0;route 0 a 1 0;", 0, 4, 4);
        table("route 0 ab 1 0;route 0 ba 1 0;", 0, 4, 2);
        table("route 0 aa 1 0;route 0 ab 1 0;route 1 ac 0 0;", 0, 3, 2);
        table("route 1 abcd 0 0;route 0 abcd 1 0;route 1 abcd 0 0;", 0, 4, 1);
        StringBuilder unlike = new StringBuilder("nodes 6;");
        for (int k = 0; k < 12; k++) {
            unlike.append("route 5 ").append((char) ('z' - k)).append("abc 0 0;");
        }
        table(unlike.toString(), 5, 48, 12);
        table("route 0 abcd 1 0;".repeat(12), 0, 4, 12);
        Kit.of("Promise 14, table", "NONE: there is none such (of either), or for another what.");
        AskedNames x = of(PAIR);
        for (int k : Kit.noneOf(2)) {
            due("node " + k, x.table(0, k, 0), NONE);
            due("node " + k, x.table(0, k, 1), NONE);
            due("what " + k, x.table(0, 0, k), NONE);
        }
        for (int many = 1; many <= 2; many++) {
            for (int net : Kit.noneOf(many)) {
                due("net " + net, x.table(net, 0, 0), NONE);
            }
            due("the last one", x.table(many - 1, 0, 1), 1);
            Kit.tell(x, 0, PAIR);
        }
    }

    // ---- Promise 15 -----------------------------------------------------------------------------

    private static void ways() {
        waysByLetters();
        waysToAllNodes();
        waysOfNone();
    }

    private static void way(AskedNames x, int node, String name, int bits, int letters) {
        due("ways of " + name + " at " + node, x.ways(0, node, Kit.name(name), false), bits);
        due("letters of " + name + " at " + node, x.ways(0, node, Kit.name(name), true), letters);
    }

    private static void waysByLetters() {
        Kit.of("Promise 15, ways, by Term 3", "the longest BEGINNING: how many letters (0: none)");
        AskedNames x = of(STAR_LINKS + "route 0 a 1 0;route 0 ab 2 0;route 0 abc 3 0;route 0 abcd 4 0;route 0 zzzz 5 0;route 1 b 0 0;");
        way(x, 0, "a", 2, 1);
        way(x, 0, "aa", 2, 1);
        way(x, 0, "abbb", 4, 2);
        way(x, 0, "ab", 4, 2);
        way(x, 0, "abc", 8, 3);
        way(x, 0, "abce", 8, 3);
        way(x, 0, "abcd", 16, 4);
        way(x, 0, "zzzz", 32, 4);
        way(x, 0, "zzz", 0, 0);
        way(x, 0, "b", 0, 0);
        way(x, 1, "a", 0, 0);
        way(x, 1, "b", 1, 1);
        // A beginning without a link is the longest all the same.
        way(of("link 0 1 1;route 0 a 1 0;route 0 ab 2 0;"), 0, "abc", 0, 2);
        way(of("nodes 1;"), 0, "a", 0, 0);
    }

    private static void waysToAllNodes() {
        Kit.of("Promise 15, ways, by Term 3", "NODES (bits) to which an ENTRY could go ON, nothing IN or TRIED");
        for (int node = 0; node < 6; node++) {
            StringBuilder routes = new StringBuilder();
            for (int to = 0; to < 6; to++) {
                routes.append(to == node ? "" : "route " + node + " a " + to + " 99;route " + node + " a " + to + " 0;");
            }
            way(of(ALL_LINKS + routes), node, "a", 63 & ~(1 << node), 1);
            way(of("nodes 6;" + routes), node, "a", 0, 1);
        }
        AskedNames x = of(STAR_LINKS + "route 1 a 0 0;route 1 a 2 0;route 0 a 5 0;");
        way(x, 1, "a", 1, 1);
        way(x, 0, "a", 32, 1);
    }

    private static void waysOfNone() {
        Kit.of("Promise 15, ways", "NONE: there is none such (of either; a number that is no NAME).");
        AskedNames x = of(PAIR);
        for (int name : NAMES) {
            Kit.due("ways of the name " + name, x.ways(0, 0, name, false) != NONE, true);
            Kit.due("letters of the name " + name, x.ways(0, 0, name, true) != NONE, true);
        }
        for (int name : NO_NAMES) {
            due("ways of " + name + ", no name", x.ways(0, 0, name, false), NONE);
            due("letters of " + name + ", no name", x.ways(0, 0, name, true), NONE);
        }
        for (int k : Kit.noneOf(2)) {
            due("node " + k, x.ways(0, k, 1, false), NONE);
            due("letters at node " + k, x.ways(0, k, 1, true), NONE);
        }
        for (int many = 1; many <= 2; many++) {
            for (int net : Kit.noneOf(many)) {
                due("net " + net, x.ways(net, 0, 1, false), NONE);
                due("letters in net " + net, x.ways(net, 0, 1, true), NONE);
            }
            due("the last one", x.ways(many - 1, 0, 1, false), 2);
            Kit.tell(x, 0, PAIR);
        }
        // Every number below 27 * 27 * 27, by its letters.
        for (int name = 0; name < 27 * 27 * 27; name++) {
            boolean is = name % 27 != 0 && (name < 27 || name / 27 % 27 != 0) && name > 0;
            if (name % 400 == 0) {
                x = of(PAIR);
            }
            Kit.due("ways of " + name, x.ways(0, 0, name, true) != NONE, is);
        }
    }

    // ---- Promise 16 -----------------------------------------------------------------------------

    private static void trails() {
        trailServed();
        trailWithoutAWay();
        trailRound();
        trailOfNone();
    }

    private static void trail(String net, String name, int ending, int... nodes) {
        AskedNames x = of(net);
        int n = Kit.name(name);
        due("how many of " + net, x.trail(0, nodes[0], n, NONE), nodes.length);
        due("how it ends in " + net, x.trail(0, nodes[0], n, 20), ending);
        for (int k = 0; k < nodes.length; k++) {
            due(k + " in " + net, x.trail(0, nodes[0], n, k), nodes[k]);
        }
        for (int k : new int[] {Integer.MIN_VALUE, -2, nodes.length, nodes.length + 1, 19, 21, Integer.MAX_VALUE}) {
            due("not so many, " + k, x.trail(0, nodes[0], n, k), NONE);
        }
    }

    private static void trailServed() {
        Kit.of("Promise 16, trail, by Term 3", "up to one that SERVES a BEGINNING of the NAME");
        trail("nodes 1;serve 0 a 0;", "a", 1, 0);
        trail("nodes 1;serve 0 a 0;", "abcd", 1, 0);
        trail(PAIR, "a", 1, 0, 1);
        trail(PAIR, "a", 1, 1);
        trail(RING + "serve 5 a 0;", "a", 1, 0, 1, 2, 3, 4, 5);
        trail(RING + "serve 3 ab 0;", "ab", 1, 0, 1, 2, 3);
        // It ends where it is served though it could go on; a longer word serves it not.
        trail(RING + "serve 3 abc 0;", "ab", 3, 0, 1, 2, 3, 4, 5, 0);
    }

    private static void trailWithoutAWay() {
        Kit.of("Promise 16, trail, by Term 3", "or from which it can't go ON");
        trail("nodes 1;", "a", 2, 0);
        trail("route 0 a 1 0;", "a", 2, 0);
        trail("link 0 1 1;", "a", 2, 0);
        trail("link 0 1 1;route 0 a 1 0;", "a", 2, 0, 1);
        trail("link 0 1 1;route 0 ab 1 0;", "a", 2, 0);
        Kit.of("Promise 16, trail, by Term 3", "IN being the NODE ahead of it alone");
        trail("link 0 1 1;route 0 a 1 0;route 1 a 0 0;", "a", 2, 0, 1);
        trail("link 0 1 1;link 1 2 1;route 0 a 1 0;route 1 a 0 0;route 1 a 2 9;route 2 a 1 0;", "a", 2, 0, 1, 2);
        Kit.of("Promise 16, trail, by Term 3", "nothing MEASURED");
        String net = "link 0 1 9;link 0 2 9;route 0 a 2 1;route 0 a 1 1;serve 1 a 0;serve 2 a 0;";
        AskedNames x = Kit.told(net, "ask 0 a;wait 18;");
        due("measured in a run", x.state(0, 0, 2, 101), 18);
        due("the least node all the same", x.trail(0, 0, 1, 1), 1);
        due("nor behind it", x.state(0, 0, 2, 101) * 100 + x.trail(0, 0, 1, 1), 1801);
    }

    private static void trailRound() {
        Kit.of("Promise 16, trail, by Term 3", "or that was in the TRAIL already (it is the last one, too)");
        trail(RING, "a", 3, 0, 1, 2, 3, 4, 5, 0);
        trail(RING, "abcd", 3, 4, 5, 0, 1, 2, 3, 4);
        // It comes back to the second one, from where it can't go on a second time.
        trail("nodes 4;link 0 1 1;link 1 2 1;link 2 3 1;link 3 1 1;route 0 a 1 0;route 1 a 2 0;route 2 a 3 0;route 3 a 1 0;", "a", 3, 0, 1, 2, 3, 1);
        trail("link 0 1 1;link 1 2 1;link 2 0 1;route 0 a 1 0;route 1 a 2 0;route 2 a 0 0;", "a", 3, 2, 0, 1, 2);
    }

    private static void trailOfNone() {
        Kit.of("Promise 16, trail", "how many (k NONE), the k-th, or (k 20) how it ends: 1 SERVED, 2 it can't go ON, 3 it was there already");
        AskedNames one = of("nodes 1;");
        due("how many", one.trail(0, 0, 1, NONE), 1);
        due("the first", one.trail(0, 0, 1, 0), 0);
        due("how it ends", one.trail(0, 0, 1, 20), 2);
        Kit.of("Promise 16, trail", "NONE: not so many, there is none such (of either; a number that is no NAME).");
        AskedNames x = of(PAIR);
        for (int k : new int[] {NONE, 0, 20}) {
            for (int name : NAMES) {
                Kit.due("trail of the name " + name, x.trail(0, 0, name, k) != NONE, true);
            }
            for (int name : NO_NAMES) {
                due("trail of " + name + ", no name", x.trail(0, 0, name, k), NONE);
            }
            for (int node : Kit.noneOf(2)) {
                due("node " + node, x.trail(0, node, 1, k), NONE);
            }
        }
        for (int many = 1; many <= 2; many++) {
            for (int net : Kit.noneOf(many)) {
                due("net " + net, x.trail(net, 0, 1, NONE), NONE);
                due("net " + net, x.trail(net, 0, 1, 20), NONE);
            }
            due("the last one", x.trail(many - 1, 0, 1, NONE), 2);
            Kit.tell(x, 0, PAIR);
        }
    }

    // ---- Promise 17 -----------------------------------------------------------------------------

    private static void far() {
        Kit.of("Promise 17, far, by Term 3", "the least DELAY of all LINKS on a way, together (to itself 0; none: none)");
        due("one node", of("nodes 1;").far(0, 0, 0), 0);
        AskedNames line = of("nodes 6;link 4 5 9;link 3 4 9;link 2 3 9;link 1 2 9;link 0 1 9;");
        for (int a = 0; a < 6; a++) {
            for (int b = 0; b < 6; b++) {
                due("in a line " + a + " " + b, line.far(0, a, b), 9 * Math.abs(a - b));
            }
        }
        AskedNames round = of("nodes 6;link 0 5 9;link 0 1 1;link 1 2 1;link 2 3 1;link 3 4 1;link 4 5 1;");
        due("five links are less than one", round.far(0, 0, 5), 5);
        due("and back", round.far(0, 5, 0), 5);
        AskedNames slow = of("link 0 1 1;link 0 2 1;link 1 2 9;");
        due("two links are less than one", slow.far(0, 1, 2), 2);
        due("one link is less than two", slow.far(0, 0, 1), 1);
        due("though a longer way is told behind it", slow.far(0, 0, 2), 1);
        AskedNames all = of(ALL_LINKS);
        for (int a = 0; a < 6; a++) {
            for (int b = 0; b < 6; b++) {
                due("with all links " + a + " " + b, all.far(0, a, b), a == b ? 0 : 1);
            }
        }
        AskedNames parts = of("nodes 5;link 0 1 1;link 2 3 1;");
        due("no way", parts.far(0, 0, 2), NONE);
        due("no way", parts.far(0, 3, 1), NONE);
        due("no way", parts.far(0, 4, 0), NONE);
        due("to itself", parts.far(0, 4, 4), 0);
        Kit.of("Promise 17, far", "NONE: none, or there is none such (of any).");
        AskedNames x = of(PAIR);
        for (int k : Kit.noneOf(2)) {
            due("from " + k, x.far(0, k, 0), NONE);
            due("to " + k, x.far(0, 0, k), NONE);
            due("to itself, " + k, x.far(0, k, k), NONE);
        }
        for (int many = 1; many <= 2; many++) {
            for (int net : Kit.noneOf(many)) {
                due("net " + net, x.far(net, 0, 0), NONE);
            }
            due("the last one", x.far(many - 1, 0, 1), 1);
            Kit.tell(x, 0, PAIR);
        }
    }

    // ---- Promise 19 -----------------------------------------------------------------------------

    // Links 0 to 2 bring a, b, c; d needs links 0 and 3.
    private static final String FORK = "nodes 4;link 0 1 1;link 0 2 1;link 0 3 1;link 1 3 1;route 0 a 1 0;route 0 b 2 0;route 0 c 3 0;"
        + "route 0 d 1 0;route 1 d 3 0;serve 1 a 9;serve 2 b 9;serve 3 c 9;serve 3 d 9;";

    private static void fits() {
        fitsOfAllLinks();
        fitsOfOneMinute();
        fitsOfNoAsk();
        fitsOfDeedsOfTheLink();
        fitsByWhichAsk();
        fitsOfNone();
    }

    private static void fit(String net, String run, String log, int ask, int... links) {
        AskedNames x = Kit.told(net, run);
        due("log: " + log, Kit.tell(x, 2, log), 0);
        due("how many fit " + log, x.fits(0, 0, 0, 0), links.length);
        due("ask by " + log, x.fits(0, 0, 0, 1), ask);
        for (int k = 0; k < links.length; k++) {
            due(k + " that fits " + log, x.fits(0, 0, 0, 10 + k), links[k]);
        }
        for (int k = links.length; k < 40; k++) {
            due("not so many fit " + log, x.fits(0, 0, 0, 10 + k), -2);
        }
    }

    private static void fitsOfAllLinks() {
        Kit.of("Promise 19, fits, by Term 4", "the k-th, rising, none (NONE) ahead of all");
        fit(ALL_LINKS, "", "", NONE, NONE, 0, 1, 2, 3, 4, 5, 6, 7, 8, 9, 10, 11, 12, 13, 14);
        fit("nodes 1;", "", "", NONE, NONE);
        fit(FORK, "ask 0 a;wait 2;", "lost 0;", 0, 0);
        fit(FORK, "ask 0 a;wait 2;", "got 0 2;", 0, NONE, 1, 2, 3);
        fit(FORK, "ask 0 a;wait 2;", "got 0 2;lost 0;", NONE);
        Kit.of("Promise 19, fits, by Term 4", "(by numbers: as they were told of first; or none)");
        fit("link 1 2 1;link 1 0 9;link 0 1 1;route 0 a 1 0;serve 1 a 9;", "ask 0 a;wait 2;", "lost 0;", 0, 1);
    }

    private static void fitsOfOneMinute() {
        Kit.of("Promise 19, fits, by Term 4", "all FACTS are so");
        fit(FORK, "ask 0 a;wait 3;", "got 0 1;", NONE);
        fit(FORK, "ask 0 a;wait 3;", "got 0 3;", NONE);
        fit(FORK, "ask 1 a;", "got 0 0;", 0, NONE, 0, 1, 2, 3);
        fit(FORK, "ask 1 a;", "got 0 1;", NONE);
        fit(FORK, "wait 20;wait 20;wait 20;wait 20;wait 19;ask 1 a;", "got 5 99;", 5, NONE, 0, 1, 2, 3);
        fit(FORK, "ask 0 a;wait 1;", "lost 0;", 0, NONE, 0, 1, 2, 3);
        fit(FORK, "ask 0 a;ask 0 b;wait 2;", "got 0 2;lost 1;", 0, 1);
        fit(FORK, "ask 0 a;ask 0 b;wait 2;", "lost 1;got 0 2;lost 1;got 0 2;lost 1;got 0 2;lost 1;got 0 3;", NONE);
    }

    private static void fitsOfNoAsk() {
        Kit.of("Promise 19, fits, by Term 4", "(of a DEED that is no ask, or was not done: got never, lost always)");
        String run = "wait 2;cut 0 1;mend 0 1;ask 1 a;mend 0 1;ask 1 a;";
        int[] noAsks = {0, 1, 2, 4, 5, 6, 39};
        for (int k : noAsks) {
            fit(FORK, run, "got " + k + " 2;", NONE);
            fit(FORK, run, "lost " + k + ";", 3, NONE, 0, 1, 2, 3);
        }
        fit(FORK, run, "got 3 2;", 3, NONE, 1, 2, 3);
        fit(FORK, "", "lost 0;", NONE, NONE, 0, 1, 2, 3);
        fit(FORK, "", "got 0 0;", NONE);
        fit(FORK, "ask 0 zz;".repeat(39) + "ask 1 a;", "got 39 0;lost 38;", 0, NONE, 0, 1, 2, 3);
        // An ask of another run that got data leaves nothing behind for one that is not done.
        AskedNames x = Kit.told(FORK, "ask 1 a;");
        Kit.tell(x, 1, "ask 5 a;");
        Kit.tell(x, 2, "lost 0;");
        due("none fits the first run", x.fits(0, 0, 0, 0), 0);
        due("all fit the second run", x.fits(0, 1, 0, 0), 5);
        due("no mean of it", x.after(0, 1, 7), NONE);
    }

    private static void fitsOfDeedsOfTheLink() {
        Kit.of("Promise 19, fits, by Term 4", "(a DEED of it can't be then)");
        // Without link 0 nothing is done from the cut on, so the ask gets nothing.
        fit(FORK, "cut 0 1;ask 0 b;wait 2;", "lost 1;", 1, 0, 1);
        fit(FORK, "cut 0 1;ask 0 b;wait 2;", "got 1 2;", 1, NONE, 2, 3);
        fit(FORK, "ask 0 b;wait 2;cut 0 1;mend 0 1;", "got 0 2;", 0, NONE, 0, 2, 3);
        // No link at all is no link that is away: it can't be cut, nor does anything go over it.
        fit(FORK, "cut 2 3;ask 1 a;", "lost 1;", 1, NONE, 0, 1, 2, 3);
        fit(FORK, "mend 2 3;ask 1 a;", "lost 1;", 1, NONE, 0, 1, 2, 3);
        fit(FORK + "route 2 a 3 0;", "ask 2 a;wait 9;", "lost 0;", 0, NONE, 0, 1, 2, 3);
        fit(FORK + "route 2 a 3 0;route 2 a 0 1;", "ask 2 a;wait 9;", "got 0 4;", 0, NONE, 2, 3);
    }

    private static void fitsByWhichAsk() {
        Kit.of("Promise 19, fits, by Term 4", "the greater number by which it GOT DATA, or not, is least, of several the least");
        fit(FORK, "wait 1;ask 0 c;ask 0 b;ask 0 a;wait 2;", "", 1, NONE, 0, 1, 2, 3);
        fit(FORK, "wait 1;ask 0 c;ask 0 b;ask 0 d;ask 0 d;wait 4;", "", 3, NONE, 0, 1, 2, 3);
        fit(FORK, "ask 0 d;ask 0 b;ask 0 a;wait 4;", "", 0, NONE, 0, 1, 2, 3);
        fit(FORK, "ask 0 d;ask 0 b;ask 0 a;wait 4;", "lost 0;", 2, 0, 3);
        fit(FORK, "ask 0 d;ask 0 b;ask 0 a;wait 4;", "got 0 4;", 1, NONE, 1, 2);
        // By none of them data are got, or by all: all asks are alike.
        fit(FORK, "wait 1;fresh 1 zz;ask 1 a;", "", 1, NONE, 0, 1, 2, 3);
        fit(FORK, "ask 1 a;fresh 1 zz;", "", 0, NONE, 0, 1, 2, 3);
        Kit.of("Promise 19, fits", "1: ASK (NONE: nothing FITS, or there is no ask)");
        fit(FORK, "wait 1;cut 0 1;", "", NONE, NONE, 0, 1, 2, 3);
        fit(FORK, "ask 1 a;", "lost 0;", NONE);
    }

    private static void fitsOfNone() {
        Kit.of("Promise 19, fits", "-2: there is none such (of any), or for another what.");
        AskedNames x = Kit.told(PAIR, "ask 0 a;");
        Kit.tell(x, 2, "");
        for (int many = 1; many <= 2; many++) {
            for (int what : new int[] {0, 1, 10}) {
                for (int k : Kit.noneOf(many)) {
                    due("net " + k, x.fits(k, 0, 0, what), -2);
                    due("run " + k, x.fits(0, k, 0, what), -2);
                    due("log " + k, x.fits(0, 0, k, what), -2);
                }
            }
            due("the last ones", x.fits(many - 1, many - 1, many - 1, 0), 2);
            Kit.tell(x, 0, PAIR);
            Kit.tell(x, 1, "ask 0 a;");
            Kit.tell(x, 2, "");
        }
        for (int what = 2; what < 10; what++) {
            due("what " + what, x.fits(0, 0, 0, what), -2);
        }
        for (int what : Kit.FAR_OUT) {
            due("what " + what, x.fits(0, 0, 0, what), -2);
        }
        due("what -1", x.fits(0, 0, 0, -1), -2);
        due("what 12", x.fits(0, 0, 0, 12), -2);
    }

    // ---- Promise 20 -----------------------------------------------------------------------------

    private static void drawns() {
        drawnByHand();
        drawnUpTo60();
        drawnNonces();
        drawnLetters();
        drawnAsTold();
        drawnOfNone();
    }

    /** The numbers of a seed, with long ones that never wrap around. */
    private static final class Numbers {
        private long x;

        Numbers(int seed) {
            x = Integer.toUnsignedLong(seed);
        }

        int below(int n) {
            x = (x * 1103515245L + 12345L) % (1L << 32);
            return (int) (x / 65536 % n);
        }
    }

    private static final int[] SEEDS = {0, 1, -1, 2, 12345, Integer.MAX_VALUE, Integer.MIN_VALUE, Integer.MIN_VALUE + 1, 0x7fff0000, -65536};

    private static void drawnByHand() {
        Kit.of("Promise 20, drawn, by Term 4", "x becomes x * 1103515245 + 12345 (of 32 bits), it is x shifted right by 16 without sign");
        // From seed 1 on 16838, 38526, 10113, 50283, 63819, 38395, 55778: wait 2, ask, ask, a link, wait 4, without serves and links.
        AskedNames bare = of("nodes 1;");
        int[] minutes = {0, 2, 2, 2, 2, 6};
        for (int n = 0; n < minutes.length; n++) {
            due("minutes of " + n, bare.drawn(0, 1, n, 0), minutes[n]);
        }
        // With a serve the ask draws a node, a serve and a letter: 10113: ask; 50283 % 2 = 1; 63819 % 1; 38395 % 3 = 1; 55778 % 10 = 8: wait.
        AskedNames served = of("nodes 2;serve 1 abcd 0;");
        due("minutes of 2", served.drawn(0, 1, 2, 0), 2);
        Kit.due("the next one waits", served.drawn(0, 1, 3, 0) > 2, true);
    }

    private static void drawnUpTo60() {
        Kit.of("Promise 20, drawn, by Term 4", "n times, 0 to 60");
        AskedNames x = new AskedNames();
        for (int seed : SEEDS) {
            x = of("nodes 3;link 0 1 1;link 1 2 1;");
            Numbers numbers = new Numbers(seed);
            int minute = 0;
            int down = 0;
            for (int n = 0; n <= 60; n++) {
                due("minute of seed " + seed + ", " + n, x.drawn(0, seed, n, 0), minute);
                due("down by seed " + seed + ", " + n, x.drawn(0, seed, n, 3), Integer.bitCount(down));
                int kind = numbers.below(10);
                if (kind == 9) {
                    down ^= 1 << numbers.below(2);
                } else if (kind >= 5) {
                    int more = 1 + numbers.below(5);
                    minute += minute + more > 99 ? 0 : more;
                }
            }
        }
        for (int n : Kit.noneOf(61)) {
            due("n " + n, x.drawn(0, 1, n, 0), -2);
        }
        Kit.of("Promise 20, drawn, by Term 4", "each, if it may");
        drawnWaitsUpTo99();
    }

    /** Seeds by which waits would go beyond minute 99, and by which it is just reached. */
    private static void drawnWaitsUpTo99() {
        int refused = 0;
        int reached = 0;
        for (int seed = 0; seed < 4000; seed++) {
            Numbers numbers = new Numbers(seed * 7919);
            int minute = 0;
            int beyond = 0;
            for (int n = 0; n < 60; n++) {
                int kind = numbers.below(10);
                int more = kind >= 5 && kind <= 8 ? 1 + numbers.below(5) : 0;
                beyond += minute + more > 99 ? 1 : 0;
                minute += minute + more > 99 ? 0 : more;
            }
            if (beyond > 0 || minute == 99) {
                refused += beyond;
                reached += minute == 99 ? 1 : 0;
                AskedNames x = of("nodes 1;");
                due("minute of seed " + seed * 7919, x.drawn(0, seed * 7919, 60, 0), minute);
            }
        }
        Kit.due("some were refused, some went up to 99", refused > 0 && reached > 0, true);
    }

    private static void drawnNonces() {
        Kit.of("Promise 20, drawn, by Term 4", "(the NONCE of an ask is the number of this time, from 0 on, asks or not)");
        // Every entry at 0 ends in the first minute of the next wait, and no answer comes ahead of that.
        String net = "nodes 2;life 1;link 0 1 9;route 0 a 1 0;serve 1 a 0;";
        int most = 0;
        for (int seed = 0; seed < 300; seed++) {
            Numbers numbers = new Numbers(seed);
            AskedNames x = of(net);
            Set<String> entries = new HashSet<>();
            boolean up = true;
            int minute = 0;
            int pending = 0;
            int dead = 0;
            for (int time = 0; time < 60; time++) {
                int kind = numbers.below(10);
                if (kind <= 4) {
                    int node = numbers.below(2);
                    numbers.below(1);
                    String entry = numbers.below(3) + (kind == 4 ? "!" : "");
                    if (node == 0 && (up || entries.contains(entry))) {
                        entries.add(entry);
                        pending++;
                    }
                } else if (kind == 9) {
                    numbers.below(1);
                    up = !up;
                } else {
                    int more = 1 + numbers.below(5);
                    if (minute + more <= 99) {
                        minute += more;
                        dead += pending;
                        pending = 0;
                        entries.clear();
                    }
                }
            }
            due("minute of seed " + seed, x.drawn(0, seed, 60, 0), minute);
            due("dead by seed " + seed, x.drawn(0, seed, 60, 30), dead);
            due("entries by seed " + seed, x.drawn(0, seed, 60, 10), entries.size());
            due("nothing is stored by seed " + seed, x.drawn(0, seed, 60, 20), 0);
            most = Math.max(most, dead);
        }
        Kit.due("many were dead", most > 12, true);
    }

    private static void drawnLetters() {
        Kit.of("Promise 20, drawn, by Term 4", "if a number below 3 is not 0 and it has fewer than 4 letters, one letter behind it, a or b by this being 1 or 2");
        // Asks alone, ahead of the first wait or cut: an entry at 0 of each name and wish.
        for (String word : new String[] {"a", "ab", "abc", "abcd", "zzz", "zzzz"}) {
            String net = "nodes 2;link 0 1 9;route 0 " + word + " 1 0;serve 1 " + word + " 1;";
            int most = 0;
            for (int seed = 0; seed < 2000; seed++) {
                Numbers numbers = new Numbers(seed);
                Set<String> entries = new HashSet<>();
                int asks = 0;
                for (int kind = numbers.below(10); kind <= 4 && asks < 60; kind = numbers.below(10)) {
                    boolean at0 = numbers.below(2) == 0;
                    numbers.below(1);
                    int letter = numbers.below(3);
                    String name = word + (word.length() < 4 ? letter : 0) + (kind == 4 ? "!" : "");
                    if (at0) {
                        entries.add(name);
                    }
                    asks++;
                }
                if (entries.size() > 1) {
                    due("entries of " + word + " by seed " + seed, of(net).drawn(0, seed, asks, 10), entries.size());
                    most = Math.max(most, entries.size());
                }
            }
            Kit.due("many entries of " + word, most >= (word.length() < 4 ? 4 : 2), true);
        }
    }

    private static void drawnAsTold() {
        Kit.of("Promise 20, drawn", "DRAWN, n times, what as state().");
        String net = "nodes 4;life 9;link 0 1 1;link 1 2 2;link 2 3 1;link 3 0 2;route 0 a 1 3;route 0 a 3 2;route 1 a 2 0;route 2 a 3 0;"
            + "route 3 a 2 1;route 3 a 0 0;serve 2 a 3;serve 1 aa 7;serve 1 abcd 9;serve 3 aab 1;room 0 1;";
        String[] words = {"a", "aa", "abcd", "aab"};
        int[][] links = {{0, 1}, {1, 2}, {2, 3}, {3, 0}};
        for (int seed = -20; seed < 60; seed++) {
            Numbers numbers = new Numbers(seed * 104729);
            StringBuilder run = new StringBuilder();
            int down = 0;
            for (int time = 0; time < 40; time++) {
                int kind = numbers.below(10);
                if (kind <= 4) {
                    int node = numbers.below(4);
                    String word = words[numbers.below(4)];
                    int letter = numbers.below(3);
                    run.append(kind == 4 ? "fresh " : "ask ").append(node).append(" ").append(word);
                    run.append(letter == 0 || word.length() == 4 ? "" : letter == 1 ? "a" : "b").append(";");
                } else if (kind <= 8) {
                    run.append("wait ").append(1 + numbers.below(5)).append(";");
                } else {
                    int link = numbers.below(4);
                    run.append((down >> link & 1) == 0 ? "cut " : "mend ").append(links[link][0]).append(" ").append(links[link][1]).append(";");
                    down ^= 1 << link;
                }
            }
            AskedNames x = Kit.told(net, run.toString());
            int n = x.stop(0, 0);
            for (int what = -1; what < 150; what++) {
                due("drawn by " + seed * 104729 + ", what " + what, x.drawn(0, seed * 104729, n, what), x.state(0, 0, n, what));
            }
        }
    }

    private static void drawnOfNone() {
        Kit.of("Promise 20, drawn", "-2: there is none such, another n, or for another what.");
        AskedNames x = of(PAIR);
        for (int what : new int[] {-1, -10, 4, 9, 12, 19, 22, 32, 39, 40, 99, 102, 120, 122, 199, 200}) {
            due("what " + what, x.drawn(0, 1, 5, what), -2);
        }
        for (int what : Kit.FAR_OUT) {
            due("what " + what, x.drawn(0, 1, 0, what), -2);
        }
        for (int many = 1; many <= 2; many++) {
            for (int net : Kit.noneOf(many)) {
                due("net " + net, x.drawn(net, 1, 0, 0), -2);
            }
            due("the last one", x.drawn(many - 1, 1, 0, 0), 0);
            Kit.tell(x, 0, PAIR);
        }
        Kit.of("Promise 20, drawn, by Term 4", "(Without SERVES 0 to 4, without LINKS 9 draw no more, nothing is done.)");
        AskedNames bare = of("nodes 6;");
        for (int seed : SEEDS) {
            for (int what : new int[] {1, 2, 3, 10, 15, 20, 25, 30, 35}) {
                due("nothing by seed " + seed, bare.drawn(0, seed, 60, what), 0);
            }
            due("nothing measured", bare.drawn(0, seed, 60, 105), NONE);
        }
    }

    // ---- Promise 22 -----------------------------------------------------------------------------

    private static void edges() {
        edgesThatServe();
        leaves();
        blind();
        hidden();
        served();
        Kit.of("Promise 22, edges", "NONE: there is none such, or for another what.");
        AskedNames x = of(PAIR);
        for (int what : Kit.noneOf(5)) {
            due("what " + what, x.edges(0, what), NONE);
        }
        for (int many = 1; many <= 2; many++) {
            for (int net : Kit.noneOf(many)) {
                for (int what = 0; what < 5; what++) {
                    due("net " + net, x.edges(net, what), NONE);
                }
            }
            due("the last one", x.edges(many - 1, 1), 3);
            Kit.tell(x, 0, PAIR);
        }
    }

    private static void edge(int what, String net, int bits) {
        due("edges(0, " + what + ") of " + net, of(net).edges(0, what), bits);
    }

    private static void edgesThatServe() {
        Kit.of("Promise 22, edges, by Term 5", "EDGES (bits of NODES) that SERVE");
        edge(0, "nodes 6;", 0);
        edge(0, "nodes 6;serve 0 a 0;", 1);
        edge(0, "nodes 6;serve 5 a 0;serve 5 b 0;", 32);
        edge(0, "nodes 6;serve 0 a 0;serve 1 a 0;serve 2 a 0;serve 3 a 0;serve 4 a 0;serve 5 a 0;", 63);
    }

    private static void leaves() {
        Kit.of("Promise 22, edges, by Term 5", "LEAVES: NODES (bits) of one LINK");
        edge(1, "nodes 1;", 0);
        edge(1, "nodes 6;", 0);
        edge(1, "nodes 6;link 5 0 1;", 33);
        edge(1, STAR_LINKS, 62);
        edge(1, "nodes 6;link 0 1 1;link 1 2 1;link 2 3 1;link 3 4 1;link 4 5 1;", 33);
        edge(1, RING, 0);
        edge(1, ALL_LINKS, 0);
        edge(1, "link 0 1 1;link 1 0 2;link 0 1 3;", 3);
    }

    private static void blind() {
        Kit.of("Promise 22, edges, by Term 5", "BLIND: ROUTES (bits) without a LINK to their NODE");
        edge(2, "", 0);
        edge(2, "route 0 a 1 0;".repeat(12), 4095);
        edge(2, "route 0 a 1 0;".repeat(12) + "link 1 0 1;", 0);
        edge(2, "link 1 2 1;link 0 2 1;" + "route 0 a 2 0;".repeat(11) + "route 0 a 1 0;", 2048);
        edge(2, "link 1 2 1;route 0 a 1 0;route 1 a 2 0;route 2 a 1 0;route 1 a 0 0;", 9);
    }

    private static void hidden() {
        Kit.of("Promise 22, edges, by Term 5", "HIDDEN: ROUTES (bits) for the same BEGINNING, at the same NODE, to the same NODE as an earlier one");
        edge(3, "", 0);
        edge(3, "route 0 a 1 0;", 0);
        edge(3, "route 0 a 1 0;".repeat(12), 4094);
        edge(3, "route 0 a 1 5;route 0 a 1 4;route 0 a 1 6;", 6);
        edge(3, "route 0 a 1 0;route 0 ab 1 0;route 1 a 0 0;route 0 a 2 0;route 2 a 1 0;", 0);
        edge(3, "route 0 a 1 0;route 0 b 1 0;route 0 b 1 0;route 0 a 1 0;", 12);
    }

    private static void served() {
        Kit.of("Promise 22, edges, by Term 5", "SERVED: SERVES (bits) the BEGINNING of which begins with that of another SERVE (earlier or later) of that NODE");
        edge(4, "", 0);
        edge(4, "serve 0 a 0;", 0);
        edge(4, "serve 0 a 0;serve 0 ab 0;", 2);
        edge(4, "serve 0 ab 0;serve 0 a 0;", 1);
        edge(4, "serve 0 ab 0;serve 1 a 0;", 0);
        edge(4, "serve 0 a 0;serve 0 a 9;", 3);
        edge(4, "serve 0 ab 0;serve 0 b 9;serve 0 ba 0;", 4);
        edge(4, "serve 0 abcd 0;serve 0 a 0;serve 0 abce 0;serve 0 abc 0;serve 0 b 0;serve 0 ab 0;", 45);
        edge(4, "serve 0 a 0;".repeat(6), 63);
    }
}
