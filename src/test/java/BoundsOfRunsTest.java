/** Promises 8 to 12 and 21, with Term 5: each sentence that names a bound has a test of its own. */
public final class BoundsOfRunsTest {

    private static final int NONE = AskedNames.NONE;

    public static void main(String[] args) {
        stops();
        states();
        stores();
        entries();
        whys();
        afters();
        fullAndEmptiedNets();
        Kit.finish();
    }

    private static void due(String call, int got, int want) {
        Kit.due(call, got, want);
    }

    private static void stop(String net, String run, int want) {
        AskedNames x = Kit.told(net, run);
        due("stop of " + run, x.stop(0, 0), want);
        due("a state at STOP", x.state(0, 0, want, 0) >= 0 ? 1 : 0, 1);
        due("none behind it", x.state(0, 0, want + 1, 0), -2);
    }

    // ---- Promise 8 ------------------------------------------------------------------------------

    private static void stops() {
        stopOfAll();
        stopByNode();
        stopByLink();
        stopByMinute99();
        stopOfNone();
    }

    private static void stopOfAll() {
        Kit.of("Promise 8, stop, by Term 2", "STOP: the first DEED that can't be, else how many there are.");
        stop(Kit.PAIR, "", 0);
        stop(Kit.PAIR, "ask 0 a;", 1);
        stop(Kit.PAIR, "ask 0 a;".repeat(40), 40);
        stop(Kit.PAIR, "mend 0 1;", 0);
        stop(Kit.PAIR, "mend 0 1;ask 0 a;ask 0 a;", 0);
        stop(Kit.PAIR, "ask 0 a;mend 0 1;ask 0 a;", 1);
        stop(Kit.PAIR, "ask 0 a;".repeat(39) + "mend 0 1;", 39);
        stop(Kit.PAIR, "mend 0 1;mend 0 1;cut 0 1;", 0);
    }

    private static void stopByNode() {
        Kit.of("Promise 8, stop, by Term 2", "A DEED can't be, if there is no such NODE");
        for (int nodes = 1; nodes <= 6; nodes++) {
            for (int node = 0; node < 6; node++) {
                int want = node < nodes ? 2 : 1;
                stop("nodes " + nodes + ";", "wait 1;ask " + node + " a;", want);
                stop("nodes " + nodes + ";", "wait 1;fresh " + node + " a;", want);
            }
        }
        stop(Kit.PAIR, "cut 0 2;", 0);
        stop(Kit.PAIR, "cut 2 0;", 0);
        stop(Kit.PAIR, "cut 5 4;", 0);
        stop(Kit.PAIR, "mend 0 2;", 0);
        stop(Kit.PAIR, "mend 5 1;", 0);
    }

    private static void stopByLink() {
        Kit.of("Promise 8, stop, by Term 2", "LINK, or it is not as said");
        stop("link 0 1 1;", "cut 0 2;", 0);
        stop("link 0 1 1;", "mend 0 2;", 0);
        stop("link 0 1 1;", "cut 0 1;cut 0 1;", 1);
        stop("link 0 1 1;", "cut 0 1;cut 1 0;", 1);
        stop("link 0 1 1;", "mend 1 0;", 0);
        stop("link 0 1 1;", "cut 1 0;mend 0 1;mend 0 1;", 2);
        stop("link 0 1 1;", "cut 0 1;mend 1 0;".repeat(20), 40);
        stop("link 0 1 1;link 1 2 1;", "cut 0 1;cut 2 1;mend 1 0;mend 1 2;", 4);
        stop("link 0 1 1;link 1 2 1;", "cut 0 1;mend 1 2;", 1);
    }

    private static void stopByMinute99() {
        Kit.of("Promise 8, stop, by Term 2", "(it can't be, if they would go beyond minute 99)");
        for (int minutes = 1; minutes <= 20; minutes++) {
            stop(Kit.PAIR, Kit.waits(80) + "wait " + minutes + ";", minutes <= 19 ? 5 : 4);
            stop(Kit.PAIR, Kit.waits(98) + "wait " + minutes + ";", minutes <= 1 ? 6 : 5);
            stop(Kit.PAIR, Kit.waits(99) + "wait " + minutes + ";", 5);
        }
        stop(Kit.PAIR, Kit.waits(99) + "ask 0 a;fresh 0 a;cut 0 1;mend 0 1;wait 1;", 9);
        AskedNames x = Kit.told(Kit.PAIR, Kit.waits(98) + "ask 0 a;wait 2;");
        due("no minute of it goes by", x.state(0, 0, x.stop(0, 0), 0), 98);
        due("nor comes what was sent", x.state(0, 0, x.stop(0, 0), 1), 1);
        due("nor is anything sent", x.after(0, 0, 0), 1);
    }

    private static void stopOfNone() {
        Kit.of("Promise 8, stop", "NONE: there is none such (of either).");
        AskedNames x = Kit.told(Kit.PAIR, "");
        for (int many = 1; many <= 2; many++) {
            for (int k : Kit.noneOf(many)) {
                due("net " + k, x.stop(k, 0), NONE);
                due("run " + k, x.stop(0, k), NONE);
                due("both " + k, x.stop(k, k), NONE);
            }
            due("the last ones", x.stop(many - 1, many - 1), 0);
            Kit.tell(x, 0, Kit.PAIR);
            Kit.tell(x, 1, "");
        }
    }

    // ---- Promise 9 ------------------------------------------------------------------------------

    private static void states() {
        stateOfNoDeeds();
        stateUpToStop();
        stateOfNone();
        statesThatAreFull();
    }

    private static boolean isLook(int nodes, int what) {
        int one = Math.floorMod(what, 10);
        boolean ofNode = what >= 10 && what < 40 && one < nodes;
        return what >= 0 && what < 4 || ofNode || isPair(nodes, what);
    }

    private static boolean isPair(int nodes, int what) {
        return what >= 100 && what < 100 + 10 * nodes && what % 10 < nodes;
    }

    private static void stateOfNoDeeds() {
        Kit.of("Promise 9, state, by Term 2", "A RUN of a NET begins at minute 0, all LINKS up, STORES, ENTRIES, the DEAD of all NODES empty, nothing MEASURED, no MESSAGES.");
        for (int nodes = 1; nodes <= 6; nodes++) {
            AskedNames x = Kit.told("nodes " + nodes + ";serve 0 a 9;", "ask 0 a;wait 1;");
            for (int what = -150; what < 250; what++) {
                int want = isPair(nodes, what) ? NONE : isLook(nodes, what) ? 0 : -2;
                due("state(0, 0, 0, " + what + ") of " + nodes, x.state(0, 0, 0, what), want);
            }
            for (int what : Kit.FAR_OUT) {
                due("state(0, 0, 0, " + what + ")", x.state(0, 0, 0, what), -2);
            }
        }
        Kit.of("Promise 9, state", "MEASURED at NODE a of NODE b (NONE: not; of itself, too)");
        AskedNames y = Kit.told(Kit.PAIR, "ask 0 a;wait 2;");
        due("at 0 of 1", y.state(0, 0, 2, 101), 2);
        due("at 1 of 0", y.state(0, 0, 2, 110), NONE);
        due("at 0 of itself", y.state(0, 0, 2, 100), NONE);
        due("at 1 of itself", y.state(0, 0, 2, 111), NONE);
    }

    private static void stateUpToStop() {
        Kit.of("Promise 9, state, by Term 2", "A STATE is behind the first n DEEDS, n up to STOP.");
        AskedNames x = Kit.told(Kit.PAIR, "wait 3;".repeat(33) + "wait 1;wait 1;");
        for (int n = 0; n <= 33; n++) {
            due("minute behind " + n, x.state(0, 0, n, 0), 3 * n);
        }
        due("behind the one that can't be", x.state(0, 0, 34, 0), -2);
        due("behind the next one", x.state(0, 0, 35, 0), -2);
        due("behind more than there are", x.state(0, 0, 36, 0), -2);
        AskedNames y = Kit.told(Kit.PAIR, "ask 0 a;".repeat(40));
        due("behind 40", y.state(0, 0, 40, 2), 1);
        due("behind 41", y.state(0, 0, 41, 2), -2);
    }

    private static void stateOfNone() {
        Kit.of("Promise 9, state", "-2: there is no such STATE, NODE, or for another what.");
        AskedNames x = Kit.told(Kit.PAIR, "wait 1;");
        for (int many = 1; many <= 2; many++) {
            for (int k : Kit.noneOf(many)) {
                due("net " + k, x.state(k, 0, 0, 0), -2);
                due("run " + k, x.state(0, k, 0, 0), -2);
            }
            due("the last ones", x.state(many - 1, many - 1, 1, 0), 1);
            Kit.tell(x, 0, Kit.PAIR);
            Kit.tell(x, 1, "wait 1;");
        }
        for (int n : Kit.noneOf(2)) {
            due("n " + n, x.state(0, 0, n, 0), -2);
        }
        for (int what : new int[] {12, 22, 32, 19, 29, 39, 102, 120, 112, 121, 122, 109, 190, 199, 200}) {
            due("no such node, what " + what, x.state(0, 0, 1, what), -2);
        }
        for (int what : new int[] {-1, -10, -100, 4, 5, 9, 40, 41, 50, 90, 99}) {
            due("another what, " + what, x.state(0, 0, 1, what), -2);
        }
    }

    private static void statesThatAreFull() {
        Kit.of("Promise 9, state", "3: LINKS that are down");
        StringBuilder cuts = new StringBuilder();
        for (int a = 0; a < 6; a++) {
            for (int b = a + 1; b < 6; b++) {
                cuts.append("cut ").append(b).append(" ").append(a).append(";");
            }
        }
        AskedNames x = Kit.told(Kit.ALL_LINKS, cuts.toString());
        for (int n = 0; n <= 15; n++) {
            due("down behind " + n, x.state(0, 0, n, 3), n);
        }
        Kit.of("Promise 9, state", "1: MESSAGES on their ways, 2: ENTRIES of all NODES");
        StringBuilder asks = new StringBuilder();
        for (int k = 0; k < 40; k++) {
            asks.append("ask ").append(k % 5).append(" a").append((char) ('a' + k % 26)).append(k < 26 ? "" : "b").append(";");
        }
        AskedNames y = Kit.told(Kit.LINE, asks.toString());
        for (int n = 0; n <= 40; n += 8) {
            due("on their ways behind " + n, y.state(0, 0, n, 1), n);
            due("entries behind " + n, y.state(0, 0, n, 2), n);
        }
        for (int node = 0; node < 6; node++) {
            due("entries at " + node, y.state(0, 0, 40, 10 + node), node < 5 ? 8 : 0);
        }
        // Of 38 names each has an entry at five nodes, and a message on its way.
        StringBuilder crowd = new StringBuilder();
        for (int k = 0; k < 38; k++) {
            crowd.append("ask 0 a").append((char) ('a' + k % 26)).append(k < 26 ? "" : "b").append(";");
        }
        AskedNames w = Kit.told(Kit.LINE, crowd + "wait 4;wait 6;");
        due("entries of a crowd", w.state(0, 0, 39, 2), 190);
        due("messages of a crowd", w.state(0, 0, 39, 1), 38);
        due("none in the end", w.state(0, 0, 40, 2) + w.state(0, 0, 40, 1), 0);
        due("all that was sent", w.after(0, 0, 0), 380);
        due("dead at 4", w.state(0, 0, 40, 34), 38);
        Kit.of("Promise 9, state", "DEAD NONCES of a NODE");
        AskedNames z = Kit.told(Kit.PAIR, "ask 0 a;".repeat(39) + "wait 2;");
        due("dead", z.state(0, 0, 39, 30), 0);
        due("dead", z.state(0, 0, 40, 30), 39);
        due("dead at the other one", z.state(0, 0, 40, 31), 0);
    }

    // ---- Promise 10 -----------------------------------------------------------------------------

    private static void stores() {
        storesOfEveryRoom();
        storeOfWhatItHas();
        storeUsedLast();
        storeUsedByANode();
        storeOfManyServers();
        storedOfNone();
    }

    private static final String FIVE_NAMES = "ask 0 a;wait 2;ask 0 aa;wait 2;ask 0 ab;wait 2;ask 0 ac;wait 2;ask 0 ad;wait 2;";

    private static void storesOfEveryRoom() {
        Kit.of("Promise 10, stored, by Term 2", "if there is ROOM: what was used longest ago is away, if there is too much");
        int[] names = {1, 28, 29, 30, 31};
        for (int room = 0; room <= 4; room++) {
            AskedNames x = Kit.told(Kit.PAIR + "room 0 " + room + ";", FIVE_NAMES);
            for (int asked = 1; asked <= 5; asked++) {
                int size = Math.min(room, asked);
                due("names behind " + asked, x.state(0, 0, 2 * asked, 20), size);
                for (int i = 0; i < size; i++) {
                    int k = asked - size + i;
                    due("name " + i, x.stored(0, 0, 2 * asked, 0, i, 0), names[k]);
                    due("until " + i, x.stored(0, 0, 2 * asked, 0, i, 1), 10 + 2 * k);
                    due("server " + i, x.stored(0, 0, 2 * asked, 0, i, 2), 1);
                }
                due("not so many", x.stored(0, 0, 2 * asked, 0, size, 0), NONE);
            }
            for (int k = 0; k < 5; k++) {
                Kit.got(x, 2 * k, 2 * k + 2, 1, 0);
            }
        }
    }

    private static void storeOfWhatItHas() {
        Kit.of("Promise 10, stored, by Term 2", "(in place of what it had of the NAME)");
        for (int room = 1; room <= 4; room++) {
            String names = room == 1 ? "ask 0 a;wait 2;" : "ask 0 a;wait 2;ask 0 ab;wait 2;";
            AskedNames x = Kit.told(Kit.PAIR + "room 0 " + room + ";", names + "wait 20;fresh 0 a;wait 2;");
            int n = Kit.deedsOf(names) + 3;
            int size = Math.min(room, 2);
            int asked = room == 1 ? 22 : 24;
            due("names", x.state(0, 0, n, 20), size);
            due("the other one is longest ago", x.stored(0, 0, n, 0, 0, 0), room == 1 ? 1 : 29);
            due("the new one is last", x.stored(0, 0, n, 0, size - 1, 0), 1);
            due("until", x.stored(0, 0, n, 0, size - 1, 1), asked + 1 + 9);
        }
        Kit.of("Promise 10, stored, by Term 2", "FRESH UNTIL now and so many minutes more (FRESH up to that minute)");
        AskedNames y = Kit.told("nodes 2;link 0 1 1;route 0 a 1 0;route 0 b 1 0;serve 1 a 99;serve 1 b 0;", Kit.waits(97) + "ask 0 a;ask 0 b;wait 2;");
        due("the latest of all", y.stored(0, 0, 8, 0, 0, 1), 98 + 99);
        due("for no minutes more", y.stored(0, 0, 8, 0, 1, 1), 98);
    }

    private static void storeUsedLast() {
        Kit.of("Promise 10, stored", "used longest ago first");
        AskedNames x = Kit.told(Kit.PAIR + "room 0 3;", "ask 0 a;wait 2;ask 0 aa;wait 2;ask 0 ab;wait 2;ask 0 a;ask 0 aa;ask 0 aa;fresh 0 ab;");
        int[][] rows = {{1, 28, 29}, {28, 29, 1}, {29, 1, 28}, {29, 1, 28}, {1, 28, 29}};
        for (int n = 6; n <= 10; n++) {
            for (int i = 0; i < 3; i++) {
                due("name " + i + " behind " + n, x.stored(0, 0, n, 0, i, 0), rows[n - 6][i]);
            }
        }
    }

    private static void storeUsedByANode() {
        Kit.of("Promise 10, stored, by Term 2", "DATA go to F, it is the one used last");
        AskedNames x = Kit.told("link 0 1 1;link 1 2 1;route 0 a 1 0;route 1 a 2 0;serve 2 a 9;", "ask 1 a;wait 2;ask 1 ab;wait 2;ask 0 a;wait 1;");
        due("ahead of it", x.stored(0, 0, 5, 1, 0, 0) * 100 + x.stored(0, 0, 5, 1, 1, 0), 129);
        due("behind it", x.stored(0, 0, 6, 1, 0, 0) * 100 + x.stored(0, 0, 6, 1, 1, 0), 2901);
        due("hits", x.after(0, 0, 1), 1);
    }

    private static void storeOfManyServers() {
        Kit.of("Promise 10, stored", "1: until when FRESH, 2: the NODE that SERVED it");
        AskedNames x = Kit.told("nodes 4;room 0 2;link 0 1 1;link 0 2 1;link 0 3 1;route 0 a 1 0;route 0 b 2 0;route 0 c 3 0;"
            + "serve 1 a 10;serve 2 b 20;serve 3 c 30;", "ask 0 a;ask 0 b;wait 2;ask 0 a;ask 0 c;wait 2;");
        int[][] due = {{3, 1, 11, 1}, {3, 2, 21, 2}, {4, 2, 21, 2}, {4, 1, 11, 1}, {6, 1, 11, 1}, {6, 3, 33, 3}};
        for (int k = 0; k < due.length; k++) {
            for (int what = 0; what < 3; what++) {
                due("stored behind " + due[k][0] + ", what " + what, x.stored(0, 0, due[k][0], 0, k % 2, what), due[k][what + 1]);
            }
        }
        // What a store gives is as it has it, though another one was given just before.
        String net = "nodes 4;link 0 1 1;link 1 2 1;link 1 3 2;route 0 a 1 0;route 0 b 1 0;route 1 a 2 0;route 1 b 3 0;serve 2 a 9;serve 3 b 50;";
        for (boolean first : new boolean[] {true, false}) {
            AskedNames y = Kit.told(net, "ask 1 a;wait 2;ask 1 b;wait 4;" + (first ? "ask 0 a;ask 0 b;" : "ask 0 b;ask 0 a;") + "wait 2;");
            Kit.got(y, 4, 8, 1, 1);
            Kit.got(y, 5, 8, 1, 1);
            for (int what = 0; what < 3; what++) {
                due("a, what " + what, y.stored(0, 0, 7, 0, first ? 0 : 1, what), new int[] {1, 10, 2}[what]);
                due("b, what " + what, y.stored(0, 0, 7, 0, first ? 1 : 0, what), new int[] {2, 54, 3}[what]);
            }
        }
    }

    private static void storedOfNone() {
        Kit.of("Promise 10, stored", "NONE: not so many, there is none such (of any), or for another what.");
        AskedNames x = Kit.told(Kit.PAIR + "room 0 4;", FIVE_NAMES + "mend 0 1;wait 1;");
        for (int i : Kit.noneOf(4)) {
            due("i " + i, x.stored(0, 0, 10, 0, i, 0), NONE);
            due("i " + i + " ahead of all", x.stored(0, 0, 0, 0, i, 0), NONE);
            due("i " + i + " of a server", x.stored(0, 0, 10, 1, i, 0), NONE);
        }
        due("i 0 ahead of all", x.stored(0, 0, 0, 0, 0, 0), NONE);
        for (int n : Kit.noneOf(11)) {
            due("n " + n, x.stored(0, 0, n, 0, 0, 0), NONE);
        }
        for (int node : Kit.noneOf(2)) {
            due("node " + node, x.stored(0, 0, 10, node, 0, 0), NONE);
        }
        for (int what : Kit.noneOf(3)) {
            due("what " + what, x.stored(0, 0, 10, 0, 0, what), NONE);
        }
        for (int many = 1; many <= 2; many++) {
            for (int k : Kit.noneOf(many)) {
                due("net " + k, x.stored(k, 0, 10, 0, 0, 0), NONE);
                due("run " + k, x.stored(0, k, 10, 0, 0, 0), NONE);
            }
            due("the last ones", x.stored(many - 1, many - 1, 2, 0, 0, 0), many == 1 ? 1 : 30);
            Kit.tell(x, 0, Kit.PAIR);
            Kit.tell(x, 1, "ask 0 ac;wait 2;");
        }
    }

    // ---- Promise 11 -----------------------------------------------------------------------------

    private static void entries() {
        entriesAsMade();
        entryOfManyIn();
        entryOfManyTried();
        entryOfNone();
    }

    private static void entriesAsMade() {
        Kit.of("Promise 11, entry", "Of the i-th ENTRY at a NODE in a STATE, as made");
        AskedNames x = Kit.told(Kit.STAR, "ask 0 ab;wait 1;fresh 0 ab;ask 0 a;ask 0 ab;");
        Kit.entry(x, 5, 0, 0, 29, 0, 0, 2, 1, 2, 0, 99);
        Kit.entry(x, 5, 0, 1, 29, 1, 0, 1, 1, 2, 1, 100);
        Kit.entry(x, 5, 0, 2, 1, 0, 0, 1, 1, 2, 1, 100);
        due("not so many", x.entry(0, 0, 5, 0, 3, 0), NONE);
        due("none at 1", x.entry(0, 0, 5, 1, 0, 0), NONE);
    }

    private static void entryOfManyIn() {
        Kit.of("Promise 11, entry", "2: NODES IN (bits), 3: how many asks are IN");
        AskedNames x = Kit.told(Kit.PAIR, "ask 0 a;".repeat(40));
        for (int n = 1; n <= 40; n++) {
            due("asks in behind " + n, x.entry(0, 0, n, 0, 0, 3), n);
        }
        due("no node", x.entry(0, 0, 40, 0, 0, 2), 0);
        AskedNames y = Kit.told("nodes 6;link 0 4 1;link 1 4 1;link 2 4 1;link 3 4 1;link 4 5 9;route 0 a 4 0;route 1 a 4 0;"
            + "route 2 a 4 0;route 3 a 4 0;route 4 a 0 0;route 4 a 5 1;", "ask 3 a;ask 2 a;ask 1 a;ask 0 a;wait 1;ask 4 a;wait 20;");
        // The first that came is the one from 3, so the way to 0 was open.
        Kit.entry(y, 5, 4, 0, 1, 0, 15, 0, 0, 1, 1, 21);
        Kit.entry(y, 6, 4, 0, 1, 0, 15, 1, 0, 1, 1, 21);
    }

    private static void entryOfManyTried() {
        Kit.of("Promise 11, entry, by Term 2", "that is not IN, not TRIED");
        AskedNames x = Kit.told(Kit.STAR, "ask 0 a;wait 2;wait 2;wait 2;wait 2;wait 2;");
        int tried = 0;
        for (int way = 1; way <= 5; way++) {
            tried |= 1 << way;
            Kit.entry(x, way, 0, 0, 1, 0, 0, 1, way, tried, 2 * way - 2, 99);
        }
        due("all were tried", x.entry(0, 0, 6, 0, 0, 0), NONE);
        Kit.refused(x, 0, 10, 2, 1, 5);
        due("messages", x.after(0, 0, 0), 10);
    }

    private static void entryOfNone() {
        Kit.of("Promise 11, entry", "NONE: not so many, there is none such (of any), or for another what.");
        AskedNames x = Kit.told(Kit.PAIR, "ask 0 a;ask 0 ab;mend 0 1;ask 0 ac;");
        for (int i : Kit.noneOf(2)) {
            due("i " + i, x.entry(0, 0, 2, 0, i, 0), NONE);
        }
        for (int i = -1; i < 3; i++) {
            due("i " + i + " ahead of all", x.entry(0, 0, 0, 0, i, 0), NONE);
            due("i " + i + " at 1", x.entry(0, 0, 2, 1, i, 0), NONE);
        }
        for (int n : Kit.noneOf(3)) {
            due("n " + n, x.entry(0, 0, n, 0, 0, 0), NONE);
        }
        for (int node : Kit.noneOf(2)) {
            due("node " + node, x.entry(0, 0, 2, node, 0, 0), NONE);
        }
        for (int what : Kit.noneOf(8)) {
            due("what " + what, x.entry(0, 0, 2, 0, 0, what), NONE);
        }
        for (int many = 1; many <= 2; many++) {
            for (int k : Kit.noneOf(many)) {
                due("net " + k, x.entry(k, 0, 2, 0, 0, 0), NONE);
                due("run " + k, x.entry(0, k, 2, 0, 0, 0), NONE);
            }
            due("the last ones", x.entry(many - 1, many - 1, 1, 0, 0, 0), many == 1 ? 1 : 30);
            Kit.tell(x, 0, Kit.PAIR);
            Kit.tell(x, 1, "ask 0 ac;");
        }
    }

    // ---- Promise 12 -----------------------------------------------------------------------------

    private static void whys() {
        whyOfEach();
        whyAtOnce();
        whyByDepth();
        whyOfSeveralAtOnce();
        whyOfSeveralRuns();
        whyOfNoAsk();
        whyOfNone();
    }

    private static void whyOfEach() {
        Kit.of("Promise 12, why", "(NONE of all of what it has not)");
        AskedNames x = Kit.told("life 6;link 0 1 1;link 0 2 9;route 0 a 1 0;route 0 b 2 0;serve 1 a 9;",
            "ask 0 a;ask 0 c;ask 0 b;wait 5;ask 0 aa;ask 0 a;wait 1;");
        Kit.got(x, 0, 2, 1, 0);
        Kit.refused(x, 1, 0, 1, 1, 0);
        Kit.ranOut(x, 2, 6);
        Kit.nothingYet(x, 4);
        Kit.got(x, 5, 5, 0, 1);
    }

    private static void whyAtOnce() {
        Kit.of("Promise 12, why, by Term 2", "DATA, a NACK that go to an ask itself: it GETS them, is REFUSED, at once.");
        AskedNames x = Kit.told("nodes 2;serve 1 a 0;", "ask 1 a;fresh 1 a;ask 0 a;wait 1;fresh 1 ab;ask 0 b;" + Kit.waits(98) + "ask 1 a;ask 0 a;");
        Kit.got(x, 0, 0, 1, 0);
        Kit.got(x, 1, 0, 1, 0);
        Kit.refused(x, 2, 0, 1, 1, 0);
        Kit.got(x, 4, 1, 1, 0);
        Kit.refused(x, 5, 1, 1, 1, 0);
        Kit.got(x, 11, 99, 1, 0);
        Kit.refused(x, 12, 99, 1, 1, 0);
        due("no message was sent", x.after(0, 0, 0), 0);
    }

    private static void whyByDepth() {
        Kit.of("Promise 12, why, by Term 2", "its DEPTH is 1 more; the first one's is 1");
        for (int node = 0; node < 6; node++) {
            AskedNames x = Kit.told(Kit.LINE, "ask " + node + " a;wait 10;");
            Kit.refused(x, 0, 2 * (5 - node), 6 - node, 1, 5);
            AskedNames y = Kit.told(Kit.LINE + "serve 5 a 0;", "ask " + node + " a;wait 10;");
            Kit.got(y, 0, 2 * (5 - node), 5, 0);
        }
        // The interest comes round to where it was asked for.
        AskedNames z = Kit.told(Kit.LINE + "link 5 0 1;route 5 a 0 0;", "ask 0 a;wait 11;wait 1;");
        Kit.refused(z, 0, 12, 7, 2, 0);
        Kit.nothingYet(Kit.told(Kit.LINE + "link 5 0 1;route 5 a 0 0;", "ask 0 a;wait 11;"), 0);
    }

    private static void whyOfSeveralAtOnce() {
        Kit.of("Promise 12, why", "2: the NODE where DATA came from, 3: 1 if from a STORE, else 0");
        // Answers that are on their ways at once, of three nodes, one from a store.
        AskedNames x = Kit.told("nodes 6;life 50;link 0 1 3;link 2 3 4;link 4 5 5;link 1 5 1;route 0 a 1 0;route 2 a 3 0;route 4 a 5 0;route 1 a 5 0;"
            + "serve 3 a 9;serve 5 a 9;", "ask 1 a;wait 2;ask 0 a;ask 2 a;ask 4 a;wait 10;");
        Kit.got(x, 0, 2, 5, 0);
        Kit.got(x, 2, 8, 1, 1);
        Kit.got(x, 3, 10, 3, 0);
        Kit.got(x, 4, 12, 5, 0);
        Kit.of("Promise 12, why", "4: DEPTH, 5: 1 NO WAY, 2 a LOOP, 6: where");
        // The ring 0, 1, 2 makes a loop, which goes back while 5 has no way.
        String ring = "nodes 6;life 50;link 0 1 1;link 1 2 1;link 2 0 1;link 3 4 3;link 4 5 1;"
            + "route 0 a 1 0;route 1 a 2 0;route 2 a 0 0;route 3 a 4 0;route 4 a 5 0;";
        AskedNames y = Kit.told(ring, "ask 0 a;ask 3 a;ask 5 a;wait 8;");
        Kit.refused(y, 0, 6, 4, 2, 0);
        Kit.refused(y, 1, 8, 3, 1, 5);
        Kit.refused(y, 2, 0, 1, 1, 5);
        AskedNames z = Kit.told(ring, "ask 3 a;wait 1;ask 0 a;wait 4;ask 5 a;wait 3;");
        Kit.refused(z, 0, 8, 3, 1, 5);
        Kit.refused(z, 2, 7, 4, 2, 0);
        Kit.refused(z, 4, 5, 1, 1, 5);
    }

    private static void whyOfSeveralRuns() {
        Kit.of("Promise 12, why", "0 nothing yet, 1 it GOT DATA, 2 was REFUSED, 3 RAN OUT");
        String net = "life 6;link 0 1 1;link 0 2 9;route 0 a 1 0;route 0 b 2 0;serve 1 a 9;";
        String[] runs = {"ask 0 a;wait 6;", "ask 0 c;wait 6;", "ask 0 b;wait 6;", "ask 0 b;wait 5;"};
        int[][] due = {{1, 2, 1, 0, NONE, NONE, NONE}, {2, 0, NONE, NONE, 1, 1, 0}, {3, 6, NONE, NONE, NONE, NONE, NONE}, {0, NONE, NONE, NONE, NONE, NONE, NONE}};
        for (int one = 0; one < 4; one++) {
            for (int two = 0; two < 4; two++) {
                AskedNames x = Kit.told(net, runs[one]);
                Kit.tell(x, 1, runs[two]);
                for (int what = 0; what < 7; what++) {
                    due("first run, what " + what, x.why(0, 0, 0, what), due[one][what]);
                    due("second run, what " + what, x.why(0, 1, 0, what), due[two][what]);
                }
            }
        }
    }

    private static void whyOfNoAsk() {
        Kit.of("Promise 12, why", "-2: DEED k was not done, or is no ask");
        AskedNames x = Kit.told(Kit.PAIR, "ask 0 a;wait 1;cut 0 1;mend 0 1;fresh 0 a;ask 2 a;ask 0 a;");
        due("stop", x.stop(0, 0), 5);
        int[] due = {0, -2, -2, -2, 0, -2, -2};
        for (int k = 0; k < 7; k++) {
            for (int what = 0; what < 7; what++) {
                int want = due[k] == 0 ? what == 0 ? 0 : NONE : -2;
                due("Kit.why(0, 0, " + k + ", " + what + ")", x.why(0, 0, k, what), want);
            }
        }
    }

    private static void whyOfNone() {
        Kit.of("Promise 12, why", "there is none such (of any), or for another what");
        AskedNames x = Kit.told(Kit.PAIR, "ask 1 a;");
        for (int k : Kit.noneOf(1)) {
            due("deed " + k, x.why(0, 0, k, 0), -2);
            due("net " + k, x.why(k, 0, 0, 0), -2);
            due("run " + k, x.why(0, k, 0, 0), -2);
        }
        for (int what : Kit.noneOf(7)) {
            due("what " + what, x.why(0, 0, 0, what), -2);
        }
        due("it itself", x.why(0, 0, 0, 0), 1);
        AskedNames y = Kit.told(Kit.PAIR, "ask 1 a;".repeat(40));
        due("the last of all", y.why(0, 0, 39, 0), 1);
        due("one behind it", y.why(0, 0, 40, 0), -2);
        due("of an empty run", Kit.told(Kit.PAIR, "").why(0, 0, 0, 0), -2);
    }

    // ---- Promise 21 -----------------------------------------------------------------------------

    private static void afters() {
        afterNothing();
        afterStop();
        meanInLeastTerms();
        widestBehindADeed();
        afterOfNone();
    }

    private static void afterNothing() {
        Kit.of("Promise 21, after", "7, 8: N, D of MEAN (NONE)");
        for (String run : new String[] {"", "wait 20;", "mend 0 1;ask 1 a;"}) {
            AskedNames x = Kit.told(Kit.PAIR, run);
            for (int what = 0; what < 7; what++) {
                due("after(0, 0, " + what + ") of " + run, x.after(0, 0, what), 0);
            }
            due("N", x.after(0, 0, 7), NONE);
            due("D", x.after(0, 0, 8), NONE);
        }
        AskedNames y = Kit.told(Kit.PAIR + "life 1;", "ask 0 a;ask 0 b;wait 1;ask 0 a;");
        due("no ask got data: N", y.after(0, 0, 7), NONE);
        due("no ask got data: D", y.after(0, 0, 8), NONE);
    }

    private static void afterStop() {
        Kit.of("Promise 21, after, by Term 5", "Behind all DEEDS up to STOP");
        AskedNames x = Kit.told(Kit.PAIR, "ask 0 a;wait 1;wait 1;mend 0 1;ask 0 ab;wait 20;ask 0 a;");
        int[] due = {2, 0, 0, 0, 0, 0, 1, 2, 1};
        for (int what = 0; what < 9; what++) {
            due("after(0, 0, " + what + ")", x.after(0, 0, what), due[what]);
        }
    }

    private static void meanInLeastTerms() {
        Kit.of("Promise 21, after, by Term 5", "in the mean, a fraction in least terms (none: none)");
        int[][] due = {{1, 0, 2, 1}, {0, 1, 0, 1}, {1, 1, 1, 1}, {1, 2, 2, 3}, {2, 1, 4, 3}, {2, 2, 1, 1}, {3, 1, 3, 2}, {1, 3, 1, 2}, {0, 9, 0, 1}, {9, 0, 2, 1}};
        for (int[] d : due) {
            // So many wait two minutes, so many are where it is served.
            AskedNames x = Kit.told(Kit.PAIR, "ask 0 a;".repeat(d[0]) + "ask 1 a;".repeat(d[1]) + "ask 1 b;wait 2;");
            due("N of " + d[0] + " and " + d[1], x.after(0, 0, 7), d[2]);
            due("D of " + d[0] + " and " + d[1], x.after(0, 0, 8), d[3]);
        }
        // The longest of all: asked for in minute 0, got in minute 90.
        String far = Kit.LINE.replace("1;", "9;") + "serve 5 a 0;";
        AskedNames y = Kit.told(far, "ask 0 a;" + Kit.waits(99));
        due("N", y.after(0, 0, 7), 90);
        due("D", y.after(0, 0, 8), 1);
        AskedNames z = Kit.told(Kit.PAIR, "ask 0 a;wait 1;ask 0 a;wait 1;");
        due("each from its own asking: N", z.after(0, 0, 7), 3);
        due("each from its own asking: D", z.after(0, 0, 8), 2);
    }

    private static void widestBehindADeed() {
        Kit.of("Promise 21, after, by Term 5", "WIDEST: the most ENTRIES at all NODES together at any time behind a DEED");
        due("within a wait alone", Kit.told(Kit.LINE, "ask 0 a;wait 10;").after(0, 0, 6), 1);
        due("behind each minute", Kit.told(Kit.LINE, "ask 0 a;" + "wait 1;".repeat(10)).after(0, 0, 6), 5);
        due("at once", Kit.told(Kit.LINE, "ask 0 a;ask 1 a;ask 2 a;ask 3 a;ask 4 a;ask 5 a;").after(0, 0, 6), 5);
        due("not in the end alone", Kit.told(Kit.PAIR, "ask 0 a;ask 0 ab;wait 2;ask 0 ac;wait 2;").after(0, 0, 6), 2);
        due("where all was done at once", Kit.told(Kit.PAIR, "ask 1 a;ask 0 b;").after(0, 0, 6), 0);
    }

    private static void afterOfNone() {
        Kit.of("Promise 21, after", "-2: there is none such (of either), or for another what.");
        AskedNames x = Kit.told(Kit.PAIR, "ask 0 a;");
        for (int many = 1; many <= 2; many++) {
            for (int k : Kit.noneOf(many)) {
                due("net " + k, x.after(k, 0, 0), -2);
                due("run " + k, x.after(0, k, 0), -2);
                due("mean of run " + k, x.after(0, k, 8), -2);
            }
            due("the last ones", x.after(many - 1, many - 1, 0), 1);
            Kit.tell(x, 0, Kit.PAIR);
            Kit.tell(x, 1, "ask 0 a;");
        }
        for (int what : Kit.noneOf(9)) {
            due("what " + what, x.after(0, 0, what), -2);
        }
    }

    // ---- Nets as great as may be, and what comes in their place ---------------------------------

    private static void fullAndEmptiedNets() {
        Kit.of("Promise 4, text, by Term 1", "ROUTES, at most 12, from 0 on");
        StringBuilder routes = new StringBuilder(Kit.ALL_LINKS);
        StringBuilder serves = new StringBuilder();
        for (int node = 0; node < 6; node++) {
            routes.append("route ").append(node).append(" a ").append((node + 1) % 6).append(" 0;");
            routes.append("route ").append(node).append(" ab ").append((node + 2) % 6).append(" 0;");
            serves.append("serve ").append(node).append(" abc ").append(node).append(";");
        }
        AskedNames x = Kit.told(routes.toString() + serves, "ask 5 a;ask 0 b;ask 5 ab;ask 5 abcd;ask 0 abc;wait 20;");
        due("the way of the last route but one", x.entry(0, 0, 1, 5, 0, 4), 0);
        due("the way of the last route", x.entry(0, 0, 3, 5, 1, 4), 1);
        Kit.refused(x, 1, 0, 1, 1, 0);
        Kit.got(x, 3, 0, 5, 0);
        Kit.got(x, 4, 0, 0, 0);
        Kit.refused(x, 0, 12, 7, 2, 5);
        Kit.refused(x, 2, 6, 4, 2, 5);
        for (int node = 0; node < 6; node++) {
            due("ways of a at " + node, x.ways(0, node, 1, false), 1 << (node + 1) % 6);
            due("ways of abc at " + node, x.ways(0, node, Kit.name("abc"), false), 1 << (node + 2) % 6);
            due("ways of b at " + node, x.ways(0, node, 2, false), 0);
        }
        // A net without links, routes and serves comes in its place: nothing of it is left.
        Kit.write(x, "nodes 6;");
        due("in its place", x.text(0, 0), 0);
        for (int k : new int[] {0, 2, 3, 4}) {
            Kit.refused(x, k, 0, 1, 1, x.deed(0, k, 1));
        }
        for (int node = 0; node < 6; node++) {
            due("ways", x.ways(0, node, 1, false), 0);
            due("letters", x.ways(0, node, 1, true), 0);
            due("rows", x.table(0, node, 0), 0);
            due("routes", x.table(0, node, 1), 0);
            due("trail", x.trail(0, node, 29, 20), 2);
            due("far", x.far(0, node, (node + 1) % 6), NONE);
            due("alone", x.alone(0, node, Kit.name("abc"), 0, 0), 2);
        }
        for (int what = 0; what < 5; what++) {
            due("edges, what " + what, x.edges(0, what), 0);
        }
        due("nothing is drawn", x.drawn(0, 7, 60, 3) + x.drawn(0, 7, 60, 2), 0);
    }
}
