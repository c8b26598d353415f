/** Promises 8 to 12 and 21, with Terms 2 and 5: each sentence that names a bound has a test of its own. */
public final class BoundsOfRunsTest {

    private static final int NONE = AskedNames.NONE;
    private static final String PAIR = "nodes 2;link 0 1 1;route 0 a 1 0;serve 1 a 9;";
    private static final String LINE = "nodes 6;life 99;link 0 1 1;link 1 2 1;link 2 3 1;link 3 4 1;link 4 5 1;"
        + "route 0 a 1 0;route 1 a 2 0;route 2 a 3 0;route 3 a 4 0;route 4 a 5 0;";
    private static final String STAR = "nodes 6;life 99;link 0 1 1;link 0 2 1;link 0 3 1;link 0 4 1;link 0 5 1;"
        + "route 0 a 5 7;route 0 a 4 7;route 0 a 3 7;route 0 a 2 7;route 0 a 1 7;";
    private static final String ALL_LINKS = "nodes 6;link 0 1 1;link 0 2 1;link 0 3 1;link 0 4 1;link 0 5 1;link 1 2 1;link 1 3 1;"
        + "link 1 4 1;link 1 5 1;link 2 3 1;link 2 4 1;link 2 5 1;link 3 4 1;link 3 5 1;link 4 5 1;";

    public static void main(String[] args) {
        stops();
        states();
        stores();
        entries();
        whys();
        messages();
        minutes();
        interests();
        goingOn();
        data();
        nacks();
        afters();
        Kit.finish();
    }

    private static void due(String call, int got, int want) {
        Kit.due(call, got, want);
    }

    /** Deeds by which so many minutes go by. */
    private static String waits(int minutes) {
        StringBuilder text = new StringBuilder();
        for (int left = minutes; left > 0; left -= 20) {
            text.append("wait ").append(Math.min(left, 20)).append(";");
        }
        return text.toString();
    }

    private static int deedsOf(String run) {
        return run.split(";", -1).length - 1;
    }

    private static void why(AskedNames x, int k, int... want) {
        for (int what = 0; what < 7; what++) {
            due("why(0, 0, " + k + ", " + what + ")", x.why(0, 0, k, what), want[what]);
        }
    }

    private static void got(AskedNames x, int k, int minute, int node, int fromStore) {
        why(x, k, 1, minute, node, fromStore, NONE, NONE, NONE);
    }

    private static void refused(AskedNames x, int k, int minute, int depth, int root, int where) {
        why(x, k, 2, minute, NONE, NONE, depth, root, where);
    }

    private static void ranOut(AskedNames x, int k, int minute) {
        why(x, k, 3, minute, NONE, NONE, NONE, NONE, NONE);
    }

    private static void nothingYet(AskedNames x, int k) {
        why(x, k, 0, NONE, NONE, NONE, NONE, NONE, NONE);
    }

    private static void stop(String net, String run, int want) {
        AskedNames x = Kit.told(net, run);
        due("stop of " + run, x.stop(0, 0), want);
        due("a state at STOP", x.state(0, 0, want, 0) >= 0 ? 1 : 0, 1);
        due("none behind it", x.state(0, 0, want + 1, 0), -2);
    }

    // ---- Promise 8 ------------------------------------------------------------------------------

    private static void stops() {
        stopOfAll();
        stopByNode();
        stopByLink();
        stopByMinute99();
        stopOfNone();
    }

    private static void stopOfAll() {
        Kit.of("Promise 8, stop, by Term 2", "STOP: the first DEED that can't be, else how many there are.");
        stop(PAIR, "", 0);
        stop(PAIR, "ask 0 a;", 1);
        stop(PAIR, "ask 0 a;".repeat(40), 40);
        stop(PAIR, "mend 0 1;", 0);
        stop(PAIR, "mend 0 1;ask 0 a;ask 0 a;", 0);
        stop(PAIR, "ask 0 a;mend 0 1;ask 0 a;", 1);
        stop(PAIR, "ask 0 a;".repeat(39) + "mend 0 1;", 39);
        stop(PAIR, "mend 0 1;mend 0 1;cut 0 1;", 0);
    }

    private static void stopByNode() {
        Kit.of("Promise 8, stop, by Term 2", "A DEED can't be, if there is no such NODE");
        for (int nodes = 1; nodes <= 6; nodes++) {
            for (int node = 0; node < 6; node++) {
                int want = node < nodes ? 2 : 1;
                stop("nodes " + nodes + ";", "wait 1;ask " + node + " a;", want);
                stop("nodes " + nodes + ";", "wait 1;fresh " + node + " a;", want);
            }
        }
        stop(PAIR, "cut 0 2;", 0);
        stop(PAIR, "cut 2 0;", 0);
        stop(PAIR, "cut 5 4;", 0);
        stop(PAIR, "mend 0 2;", 0);
        stop(PAIR, "mend 5 1;", 0);
    }

    private static void stopByLink() {
        Kit.of("Promise 8, stop, by Term 2", "LINK, or it is not as said");
        stop("link 0 1 1;", "cut 0 2;", 0);
        stop("link 0 1 1;", "mend 0 2;", 0);
        stop("link 0 1 1;", "cut 0 1;cut 0 1;", 1);
        stop("link 0 1 1;", "cut 0 1;cut 1 0;", 1);
        stop("link 0 1 1;", "mend 1 0;", 0);
        stop("link 0 1 1;", "cut 1 0;mend 0 1;mend 0 1;", 2);
        stop("link 0 1 1;", "cut 0 1;mend 1 0;".repeat(20), 40);
        stop("link 0 1 1;link 1 2 1;", "cut 0 1;cut 2 1;mend 1 0;mend 1 2;", 4);
        stop("link 0 1 1;link 1 2 1;", "cut 0 1;mend 1 2;", 1);
    }

    private static void stopByMinute99() {
        Kit.of("Promise 8, stop, by Term 2", "(it can't be, if they would go beyond minute 99)");
        for (int minutes = 1; minutes <= 20; minutes++) {
            stop(PAIR, waits(80) + "wait " + minutes + ";", minutes <= 19 ? 5 : 4);
            stop(PAIR, waits(98) + "wait " + minutes + ";", minutes <= 1 ? 6 : 5);
            stop(PAIR, waits(99) + "wait " + minutes + ";", 5);
        }
        stop(PAIR, waits(99) + "ask 0 a;fresh 0 a;cut 0 1;mend 0 1;wait 1;", 9);
        AskedNames x = Kit.told(PAIR, waits(98) + "ask 0 a;wait 2;");
        due("no minute of it goes by", x.state(0, 0, x.stop(0, 0), 0), 98);
        due("nor comes what was sent", x.state(0, 0, x.stop(0, 0), 1), 1);
        due("nor is anything sent", x.after(0, 0, 0), 1);
    }

    private static void stopOfNone() {
        Kit.of("Promise 8, stop", "NONE: there is none such (of either).");
        AskedNames x = Kit.told(PAIR, "");
        for (int many = 1; many <= 2; many++) {
            for (int k : Kit.noneOf(many)) {
                due("net " + k, x.stop(k, 0), NONE);
                due("run " + k, x.stop(0, k), NONE);
                due("both " + k, x.stop(k, k), NONE);
            }
            due("the last ones", x.stop(many - 1, many - 1), 0);
            Kit.tell(x, 0, PAIR);
            Kit.tell(x, 1, "");
        }
    }

    // ---- Promise 9 ------------------------------------------------------------------------------

    private static void states() {
        stateOfNoDeeds();
        stateUpToStop();
        stateOfNone();
        statesThatAreFull();
    }

    private static boolean isLook(int nodes, int what) {
        int one = Math.floorMod(what, 10);
        boolean ofNode = what >= 10 && what < 40 && one < nodes;
        return what >= 0 && what < 4 || ofNode || isPair(nodes, what);
    }

    private static boolean isPair(int nodes, int what) {
        return what >= 100 && what < 100 + 10 * nodes && what % 10 < nodes;
    }

    private static void stateOfNoDeeds() {
        Kit.of("Promise 9, state, by Term 2", "A RUN of a NET begins at minute 0, all LINKS up, STORES, ENTRIES, the DEAD of all NODES empty, nothing MEASURED, no MESSAGES.");
        for (int nodes = 1; nodes <= 6; nodes++) {
            AskedNames x = Kit.told("nodes " + nodes + ";serve 0 a 9;", "ask 0 a;wait 1;");
            for (int what = -200; what < 400; what++) {
                int want = isPair(nodes, what) ? NONE : isLook(nodes, what) ? 0 : -2;
                due("state(0, 0, 0, " + what + ") of " + nodes, x.state(0, 0, 0, what), want);
            }
            for (int what : Kit.FAR_OUT) {
                due("state(0, 0, 0, " + what + ")", x.state(0, 0, 0, what), -2);
            }
        }
        Kit.of("Promise 9, state", "MEASURED at NODE a of NODE b (NONE: not; of itself, too)");
        AskedNames y = Kit.told(PAIR, "ask 0 a;wait 2;");
        due("at 0 of 1", y.state(0, 0, 2, 101), 2);
        due("at 1 of 0", y.state(0, 0, 2, 110), NONE);
        due("at 0 of itself", y.state(0, 0, 2, 100), NONE);
        due("at 1 of itself", y.state(0, 0, 2, 111), NONE);
    }

    private static void stateUpToStop() {
        Kit.of("Promise 9, state, by Term 2", "A STATE is behind the first n DEEDS, n up to STOP.");
        AskedNames x = Kit.told(PAIR, "wait 3;".repeat(33) + "wait 1;wait 1;");
        for (int n = 0; n <= 33; n++) {
            due("minute behind " + n, x.state(0, 0, n, 0), 3 * n);
        }
        due("behind the one that can't be", x.state(0, 0, 34, 0), -2);
        due("behind the next one", x.state(0, 0, 35, 0), -2);
        due("behind more than there are", x.state(0, 0, 36, 0), -2);
        AskedNames y = Kit.told(PAIR, "ask 0 a;".repeat(40));
        due("behind 40", y.state(0, 0, 40, 2), 1);
        due("behind 41", y.state(0, 0, 41, 2), -2);
    }

    private static void stateOfNone() {
        Kit.of("Promise 9, state", "-2: there is no such STATE, NODE, or for another what.");
        AskedNames x = Kit.told(PAIR, "wait 1;");
        for (int many = 1; many <= 2; many++) {
            for (int k : Kit.noneOf(many)) {
                due("net " + k, x.state(k, 0, 0, 0), -2);
                due("run " + k, x.state(0, k, 0, 0), -2);
            }
            due("the last ones", x.state(many - 1, many - 1, 1, 0), 1);
            Kit.tell(x, 0, PAIR);
            Kit.tell(x, 1, "wait 1;");
        }
        for (int n : Kit.noneOf(2)) {
            due("n " + n, x.state(0, 0, n, 0), -2);
        }
        for (int what : new int[] {12, 22, 32, 19, 29, 39, 102, 120, 112, 121, 122, 109, 190, 199, 200}) {
            due("no such node, what " + what, x.state(0, 0, 1, what), -2);
        }
        for (int what : new int[] {-1, -10, -100, 4, 5, 9, 40, 41, 50, 90, 99}) {
            due("another what, " + what, x.state(0, 0, 1, what), -2);
        }
    }

    private static void statesThatAreFull() {
        Kit.of("Promise 9, state", "3: LINKS that are down");
        StringBuilder cuts = new StringBuilder();
        for (int a = 0; a < 6; a++) {
            for (int b = a + 1; b < 6; b++) {
                cuts.append("cut ").append(b).append(" ").append(a).append(";");
            }
        }
        AskedNames x = Kit.told(ALL_LINKS, cuts.toString());
        for (int n = 0; n <= 15; n++) {
            due("down behind " + n, x.state(0, 0, n, 3), n);
        }
        Kit.of("Promise 9, state", "1: MESSAGES on their ways, 2: ENTRIES of all NODES");
        StringBuilder asks = new StringBuilder();
        for (int k = 0; k < 40; k++) {
            asks.append("ask ").append(k % 5).append(" a").append((char) ('a' + k % 26)).append(k < 26 ? "" : "b").append(";");
        }
        AskedNames y = Kit.told(LINE, asks.toString());
        for (int n = 0; n <= 40; n += 8) {
            due("on their ways behind " + n, y.state(0, 0, n, 1), n);
            due("entries behind " + n, y.state(0, 0, n, 2), n);
        }
        for (int node = 0; node < 6; node++) {
            due("entries at " + node, y.state(0, 0, 40, 10 + node), node < 5 ? 8 : 0);
        }
        Kit.of("Promise 9, state", "DEAD NONCES of a NODE");
        AskedNames z = Kit.told(PAIR, "ask 0 a;".repeat(39) + "wait 2;");
        due("dead", z.state(0, 0, 39, 30), 0);
        due("dead", z.state(0, 0, 40, 30), 39);
        due("dead at the other one", z.state(0, 0, 40, 31), 0);
    }

    // ---- Promise 10 -----------------------------------------------------------------------------

    private static void stores() {
        storesOfEveryRoom();
        storeOfWhatItHas();
        storeUsedLast();
        storedOfNone();
    }

    private static final String FIVE_NAMES = "ask 0 a;wait 2;ask 0 aa;wait 2;ask 0 ab;wait 2;ask 0 ac;wait 2;ask 0 ad;wait 2;";

    private static void storesOfEveryRoom() {
        Kit.of("Promise 10, stored, by Term 2", "if there is ROOM: what was used longest ago is away, if there is too much");
        int[] names = {1, 28, 29, 30, 31};
        for (int room = 0; room <= 4; room++) {
            AskedNames x = Kit.told(PAIR + "room 0 " + room + ";", FIVE_NAMES);
            for (int asked = 1; asked <= 5; asked++) {
                int size = Math.min(room, asked);
                due("names behind " + asked, x.state(0, 0, 2 * asked, 20), size);
                for (int i = 0; i < size; i++) {
                    int k = asked - size + i;
                    due("name " + i, x.stored(0, 0, 2 * asked, 0, i, 0), names[k]);
                    due("until " + i, x.stored(0, 0, 2 * asked, 0, i, 1), 10 + 2 * k);
                    due("server " + i, x.stored(0, 0, 2 * asked, 0, i, 2), 1);
                }
                due("not so many", x.stored(0, 0, 2 * asked, 0, size, 0), NONE);
            }
            for (int k = 0; k < 5; k++) {
                got(x, 2 * k, 2 * k + 2, 1, 0);
            }
        }
    }

    private static void storeOfWhatItHas() {
        Kit.of("Promise 10, stored, by Term 2", "(in place of what it had of the NAME)");
        for (int room = 1; room <= 4; room++) {
            String names = room == 1 ? "ask 0 a;wait 2;" : "ask 0 a;wait 2;ask 0 ab;wait 2;";
            AskedNames x = Kit.told(PAIR + "room 0 " + room + ";", names + "wait 20;fresh 0 a;wait 2;");
            int n = deedsOf(names) + 3;
            int size = Math.min(room, 2);
            int asked = room == 1 ? 22 : 24;
            due("names", x.state(0, 0, n, 20), size);
            due("the other one is longest ago", x.stored(0, 0, n, 0, 0, 0), room == 1 ? 1 : 29);
            due("the new one is last", x.stored(0, 0, n, 0, size - 1, 0), 1);
            due("until", x.stored(0, 0, n, 0, size - 1, 1), asked + 1 + 9);
        }
        Kit.of("Promise 10, stored, by Term 2", "FRESH UNTIL now and so many minutes more (FRESH up to that minute)");
        AskedNames y = Kit.told("nodes 2;link 0 1 1;route 0 a 1 0;route 0 b 1 0;serve 1 a 99;serve 1 b 0;", waits(97) + "ask 0 a;ask 0 b;wait 2;");
        due("the latest of all", y.stored(0, 0, 8, 0, 0, 1), 98 + 99);
        due("for no minutes more", y.stored(0, 0, 8, 0, 1, 1), 98);
    }

    private static void storeUsedLast() {
        Kit.of("Promise 10, stored", "used longest ago first");
        AskedNames x = Kit.told(PAIR + "room 0 3;", "ask 0 a;wait 2;ask 0 aa;wait 2;ask 0 ab;wait 2;ask 0 a;ask 0 aa;ask 0 aa;fresh 0 ab;");
        int[][] rows = {{1, 28, 29}, {28, 29, 1}, {29, 1, 28}, {29, 1, 28}, {1, 28, 29}};
        for (int n = 6; n <= 10; n++) {
            for (int i = 0; i < 3; i++) {
                due("name " + i + " behind " + n, x.stored(0, 0, n, 0, i, 0), rows[n - 6][i]);
            }
        }
    }

    private static void storedOfNone() {
        Kit.of("Promise 10, stored", "NONE: not so many, there is none such (of any), or for another what.");
        AskedNames x = Kit.told(PAIR + "room 0 4;", FIVE_NAMES + "mend 0 1;wait 1;");
        for (int i : Kit.noneOf(4)) {
            due("i " + i, x.stored(0, 0, 10, 0, i, 0), NONE);
            due("i " + i + " ahead of all", x.stored(0, 0, 0, 0, i, 0), NONE);
            due("i " + i + " of a server", x.stored(0, 0, 10, 1, i, 0), NONE);
        }
        due("i 0 ahead of all", x.stored(0, 0, 0, 0, 0, 0), NONE);
        for (int n : Kit.noneOf(11)) {
            due("n " + n, x.stored(0, 0, n, 0, 0, 0), NONE);
        }
        for (int node : Kit.noneOf(2)) {
            due("node " + node, x.stored(0, 0, 10, node, 0, 0), NONE);
        }
        for (int what : Kit.noneOf(3)) {
            due("what " + what, x.stored(0, 0, 10, 0, 0, what), NONE);
        }
        for (int many = 1; many <= 2; many++) {
            for (int k : Kit.noneOf(many)) {
                due("net " + k, x.stored(k, 0, 10, 0, 0, 0), NONE);
                due("run " + k, x.stored(0, k, 10, 0, 0, 0), NONE);
            }
            due("the last ones", x.stored(many - 1, many - 1, 2, 0, 0, 0), many == 1 ? 1 : 30);
            Kit.tell(x, 0, PAIR);
            Kit.tell(x, 1, "ask 0 ac;wait 2;");
        }
    }

    // ---- Promise 11 -----------------------------------------------------------------------------

    private static void entry(AskedNames x, int n, int node, int i, int... want) {
        for (int what = 0; what < 8; what++) {
            due("entry(0, 0, " + n + ", " + node + ", " + i + ", " + what + ")", x.entry(0, 0, n, node, i, what), want[what]);
        }
    }

    private static void entries() {
        entriesAsMade();
        entryOfManyIn();
        entryOfManyTried();
        entryOfNone();
    }

    private static void entriesAsMade() {
        Kit.of("Promise 11, entry", "Of the i-th ENTRY at a NODE in a STATE, as made");
        AskedNames x = Kit.told(STAR, "ask 0 ab;wait 1;fresh 0 ab;ask 0 a;ask 0 ab;");
        entry(x, 5, 0, 0, 29, 0, 0, 2, 1, 2, 0, 99);
        entry(x, 5, 0, 1, 29, 1, 0, 1, 1, 2, 1, 100);
        entry(x, 5, 0, 2, 1, 0, 0, 1, 1, 2, 1, 100);
        due("not so many", x.entry(0, 0, 5, 0, 3, 0), NONE);
        due("none at 1", x.entry(0, 0, 5, 1, 0, 0), NONE);
    }

    private static void entryOfManyIn() {
        Kit.of("Promise 11, entry", "2: NODES IN (bits), 3: how many asks are IN");
        AskedNames x = Kit.told(PAIR, "ask 0 a;".repeat(40));
        for (int n = 1; n <= 40; n++) {
            due("asks in behind " + n, x.entry(0, 0, n, 0, 0, 3), n);
        }
        due("no node", x.entry(0, 0, 40, 0, 0, 2), 0);
        AskedNames y = Kit.told("nodes 6;link 0 4 1;link 1 4 1;link 2 4 1;link 3 4 1;link 4 5 9;route 0 a 4 0;route 1 a 4 0;"
            + "route 2 a 4 0;route 3 a 4 0;route 4 a 0 0;route 4 a 5 1;", "ask 3 a;ask 2 a;ask 1 a;ask 0 a;wait 1;ask 4 a;wait 20;");
        // The first that came is the one from 3, so the way to 0 was open.
        entry(y, 5, 4, 0, 1, 0, 15, 0, 0, 1, 1, 21);
        entry(y, 6, 4, 0, 1, 0, 15, 1, 0, 1, 1, 21);
    }

    private static void entryOfManyTried() {
        Kit.of("Promise 11, entry, by Term 2", "that is not IN, not TRIED");
        AskedNames x = Kit.told(STAR, "ask 0 a;wait 2;wait 2;wait 2;wait 2;wait 2;");
        int tried = 0;
        for (int way = 1; way <= 5; way++) {
            tried |= 1 << way;
            entry(x, way, 0, 0, 1, 0, 0, 1, way, tried, 2 * way - 2, 99);
        }
        due("all were tried", x.entry(0, 0, 6, 0, 0, 0), NONE);
        refused(x, 0, 10, 2, 1, 5);
        due("messages", x.after(0, 0, 0), 10);
    }

    private static void entryOfNone() {
        Kit.of("Promise 11, entry", "NONE: not so many, there is none such (of any), or for another what.");
        AskedNames x = Kit.told(PAIR, "ask 0 a;ask 0 ab;mend 0 1;ask 0 ac;");
        for (int i : Kit.noneOf(2)) {
            due("i " + i, x.entry(0, 0, 2, 0, i, 0), NONE);
        }
        for (int i = -1; i < 3; i++) {
            due("i " + i + " ahead of all", x.entry(0, 0, 0, 0, i, 0), NONE);
            due("i " + i + " at 1", x.entry(0, 0, 2, 1, i, 0), NONE);
        }
        for (int n : Kit.noneOf(3)) {
            due("n " + n, x.entry(0, 0, n, 0, 0, 0), NONE);
        }
        for (int node : Kit.noneOf(2)) {
            due("node " + node, x.entry(0, 0, 2, node, 0, 0), NONE);
        }
        for (int what : Kit.noneOf(8)) {
            due("what " + what, x.entry(0, 0, 2, 0, 0, what), NONE);
        }
        for (int many = 1; many <= 2; many++) {
            for (int k : Kit.noneOf(many)) {
                due("net " + k, x.entry(k, 0, 2, 0, 0, 0), NONE);
                due("run " + k, x.entry(0, k, 2, 0, 0, 0), NONE);
            }
            due("the last ones", x.entry(many - 1, many - 1, 1, 0, 0, 0), many == 1 ? 1 : 30);
            Kit.tell(x, 0, PAIR);
            Kit.tell(x, 1, "ask 0 ac;");
        }
    }

    // ---- Promise 12 -----------------------------------------------------------------------------

    private static void whys() {
        whyOfEach();
        whyAtOnce();
        whyByDepth();
        whyOfNoAsk();
        whyOfNone();
    }

    private static void whyOfEach() {
        Kit.of("Promise 12, why", "(NONE of all of what it has not)");
        AskedNames x = Kit.told("life 6;link 0 1 1;link 0 2 9;route 0 a 1 0;route 0 b 2 0;serve 1 a 9;",
            "ask 0 a;ask 0 c;ask 0 b;wait 5;ask 0 aa;ask 0 a;wait 1;");
        got(x, 0, 2, 1, 0);
        refused(x, 1, 0, 1, 1, 0);
        ranOut(x, 2, 6);
        nothingYet(x, 4);
        got(x, 5, 5, 0, 1);
    }

    private static void whyAtOnce() {
        Kit.of("Promise 12, why, by Term 2", "DATA, a NACK that go to an ask itself: it GETS them, is REFUSED, at once.");
        AskedNames x = Kit.told("nodes 2;serve 1 a 0;", "ask 1 a;fresh 1 a;ask 0 a;wait 1;fresh 1 ab;ask 0 b;" + waits(98) + "ask 1 a;ask 0 a;");
        got(x, 0, 0, 1, 0);
        got(x, 1, 0, 1, 0);
        refused(x, 2, 0, 1, 1, 0);
        got(x, 4, 1, 1, 0);
        refused(x, 5, 1, 1, 1, 0);
        got(x, 11, 99, 1, 0);
        refused(x, 12, 99, 1, 1, 0);
        due("no message was sent", x.after(0, 0, 0), 0);
    }

    private static void whyByDepth() {
        Kit.of("Promise 12, why, by Term 2", "its DEPTH is 1 more; the first one's is 1");
        for (int node = 0; node < 6; node++) {
            AskedNames x = Kit.told(LINE, "ask " + node + " a;wait 10;");
            refused(x, 0, 2 * (5 - node), 6 - node, 1, 5);
            AskedNames y = Kit.told(LINE + "serve 5 a 0;", "ask " + node + " a;wait 10;");
            got(y, 0, 2 * (5 - node), 5, 0);
        }
        // The interest comes round to where it was asked for.
        AskedNames z = Kit.told(LINE + "link 5 0 1;route 5 a 0 0;", "ask 0 a;wait 11;wait 1;");
        refused(z, 0, 12, 7, 2, 0);
        nothingYet(Kit.told(LINE + "link 5 0 1;route 5 a 0 0;", "ask 0 a;wait 11;"), 0);
    }

    private static void whyOfNoAsk() {
        Kit.of("Promise 12, why", "-2: DEED k was not done, or is no ask");
        AskedNames x = Kit.told(PAIR, "ask 0 a;wait 1;cut 0 1;mend 0 1;fresh 0 a;ask 2 a;ask 0 a;");
        due("stop", x.stop(0, 0), 5);
        int[] due = {0, -2, -2, -2, 0, -2, -2};
        for (int k = 0; k < 7; k++) {
            for (int what = 0; what < 7; what++) {
                int want = due[k] == 0 ? what == 0 ? 0 : NONE : -2;
                due("why(0, 0, " + k + ", " + what + ")", x.why(0, 0, k, what), want);
            }
        }
    }

    private static void whyOfNone() {
        Kit.of("Promise 12, why", "there is none such (of any), or for another what");
        AskedNames x = Kit.told(PAIR, "ask 1 a;");
        for (int k : Kit.noneOf(1)) {
            due("deed " + k, x.why(0, 0, k, 0), -2);
            due("net " + k, x.why(k, 0, 0, 0), -2);
            due("run " + k, x.why(0, k, 0, 0), -2);
        }
        for (int what : Kit.noneOf(7)) {
            due("what " + what, x.why(0, 0, 0, what), -2);
        }
        due("it itself", x.why(0, 0, 0, 0), 1);
        AskedNames y = Kit.told(PAIR, "ask 1 a;".repeat(40));
        due("the last of all", y.why(0, 0, 39, 0), 1);
        due("one behind it", y.why(0, 0, 40, 0), -2);
        due("of an empty run", Kit.told(PAIR, "").why(0, 0, 0, 0), -2);
    }

    // ---- Term 2: messages and minutes -----------------------------------------------------------

    private static void messages() {
        messagesComeByDelay();
        messagesOverACutLink();
        messagesThatAreLost();
        messagesInTheirRow();
    }

    private static void messagesComeByDelay() {
        Kit.of("Promise 9, state, by Term 2", "comes DELAY minutes later");
        for (int delay = 1; delay <= 9; delay++) {
            String net = "nodes 3;life 99;link 0 1 " + delay + ";link 1 2 9;route 0 a 1 0;route 1 a 2 0;";
            AskedNames x = Kit.told(net, "ask 0 a;" + "wait 1;".repeat(delay));
            for (int n = 1; n <= delay + 1; n++) {
                due("entries at 1 in minute " + (n - 1), x.state(0, 0, n, 11), n <= delay ? 0 : 1);
                due("on their ways", x.state(0, 0, n, 1), 1);
            }
            AskedNames y = Kit.told("nodes 2;life 99;link 1 0 " + delay + ";route 0 a 1 0;serve 1 a 0;", "ask 0 a;wait " + (2 * delay - 1) + ";");
            nothingYet(y, 0);
            AskedNames z = Kit.told("nodes 2;life 99;link 1 0 " + delay + ";route 0 a 1 0;serve 1 a 0;", "ask 0 a;wait " + 2 * delay + ";");
            got(z, 0, 2 * delay, 1, 0);
            due("measured", z.state(0, 0, 2, 101), 2 * delay);
        }
    }

    private static void messagesOverACutLink() {
        Kit.of("Promise 12, why, by Term 2", "(though it be cut then)");
        String net = "nodes 2;link 0 1 3;route 0 a 1 0;serve 1 a 9;";
        got(Kit.told(net, "ask 0 a;wait 3;cut 0 1;wait 3;"), 0, 6, 1, 0);
        got(Kit.told(net, "ask 0 a;cut 0 1;wait 2;mend 0 1;wait 4;"), 0, 6, 1, 0);
        got(Kit.told(net, "ask 0 a;wait 3;cut 0 1;wait 1;mend 0 1;wait 2;"), 0, 6, 1, 0);
        due("none is lost", Kit.told(net, "ask 0 a;wait 3;cut 0 1;wait 3;").after(0, 0, 5), 0);
    }

    private static void messagesThatAreLost() {
        Kit.of("Promise 21, after, by Terms 2 and 5", "over another one it is lost");
        String net = "nodes 2;life 9;link 0 1 1;route 0 a 1 0;";
        for (String serve : new String[] {"", "serve 1 a 9;"}) {
            AskedNames x = Kit.told(net + serve, "ask 0 a;cut 0 1;wait 1;mend 0 1;wait 7;wait 1;");
            due("sent", x.after(0, 0, 0), 1);
            due("missed", x.after(0, 0, 5), 1);
            due("none on their ways", x.state(0, 0, 3, 1), 0);
            due("the entry stands", x.state(0, 0, 5, 10), 1);
            ranOut(x, 0, 9);
        }
        Kit.of("Promise 21, after, by Term 5", "HITS: DATA that went from STORES");
        AskedNames y = Kit.told("link 0 1 1;link 1 2 1;route 0 a 1 0;route 1 a 2 0;serve 2 a 9;",
            "ask 1 a;wait 2;ask 1 a;ask 0 a;wait 2;ask 0 a;");
        due("hits by an ask, a node, an ask", y.after(0, 0, 1), 3);
        due("sent", y.after(0, 0, 0), 4);
    }

    private static void messagesInTheirRow() {
        Kit.of("Promise 10, stored, by Term 2", "then MESSAGES that come in it, in the row in which they were sent");
        String net = "nodes 4;life 99;link 0 1 9;link 0 2 1;link 2 3 8;route 0 aa 1 0;route 0 ab 2 0;route 2 ab 3 0;serve 1 a 9;serve 3 a 9;";
        for (String asks : new String[] {"ask 0 ab;ask 0 aa;", "ask 0 aa;ask 0 ab;"}) {
            AskedNames x = Kit.told(net, asks + "wait 17;wait 1;");
            due("both come in one minute", x.why(0, 0, 0, 1) * 100 + x.why(0, 0, 1, 1), 1818);
            due("none came before", x.state(0, 0, 3, 20), 0);
            due("sent in minute 9", x.stored(0, 0, 4, 0, 0, 0), 28);
            due("sent in minute 17", x.stored(0, 0, 4, 0, 1, 0), 29);
        }
        AskedNames y = Kit.told(PAIR, "ask 0 ab;ask 0 a;ask 0 aa;wait 2;");
        due("sent in one minute: the first is away", y.stored(0, 0, 4, 0, 0, 0), 1);
        due("the last sent", y.stored(0, 0, 4, 0, 1, 0), 28);
    }

    private static void minutes() {
        entriesEndByLife();
        entriesEndBehindMinute99();
        entriesEndAheadOfMessages();
        entriesThatEnd();
    }

    private static void entriesEndByLife() {
        Kit.of("Promise 11, entry, by Term 2", "ENDS, LIFE minutes after it was made");
        for (int life : new int[] {1, 2, 3, 20, 98, 99}) {
            String run = "ask 0 a;cut 0 1;" + waits(life - 1) + "wait 1;";
            int n = deedsOf(run);
            AskedNames x = Kit.told("nodes 2;life " + life + ";link 0 1 9;route 0 a 1 0;", run);
            entry(x, n - 1, 0, 0, 1, 0, 0, 1, 1, 2, 0, life);
            due("dead a minute before", x.state(0, 0, n - 1, 30), 0);
            due("measured a minute before", x.state(0, 0, n - 1, 101), NONE);
            due("no more", x.state(0, 0, n, 10), 0);
            due("dead", x.state(0, 0, n, 30), 1);
            due("measured", x.state(0, 0, n, 101), life);
            ranOut(x, 0, life);
        }
    }

    private static void entriesEndBehindMinute99() {
        Kit.of("Promise 11, entry, by Term 2", "ENDS, LIFE minutes after it was made");
        AskedNames x = Kit.told("nodes 2;life 99;link 0 1 9;route 0 a 1 0;", "wait 1;ask 0 a;cut 0 1;" + waits(98));
        entry(x, 8, 0, 0, 1, 0, 0, 1, 1, 2, 1, 100);
        due("minute", x.state(0, 0, 8, 0), 99);
        nothingYet(x, 1);
        AskedNames y = Kit.told(PAIR + "life 99;", waits(99) + "ask 0 a;");
        entry(y, 6, 0, 0, 1, 0, 0, 1, 1, 2, 99, 198);
    }

    private static void entriesEndAheadOfMessages() {
        Kit.of("Promise 12, why, by Term 2", "in each first ENTRIES that END in it are no more");
        for (int life = 1; life <= 9; life++) {
            String net = "nodes 2;life " + life + ";link 0 1 2;route 0 a 1 0;";
            AskedNames x = Kit.told(net + "serve 1 a 9;", "ask 0 a;wait 9;");
            AskedNames y = Kit.told(net, "ask 0 a;wait 9;");
            if (life <= 4) {
                ranOut(x, 0, life);
                ranOut(y, 0, life);
                due("measured", x.state(0, 0, 2, 101), life);
                due("nothing is stored", x.state(0, 0, 2, 20), 0);
            } else {
                got(x, 0, 4, 1, 0);
                refused(y, 0, 4, 2, 1, 1);
                due("measured", x.state(0, 0, 2, 101), 4);
                due("stored", x.state(0, 0, 2, 20), 1);
            }
            due("dropped", x.after(0, 0, 4), life <= 4 ? 1 : 0);
            due("a refusal is not dropped", y.after(0, 0, 4), 0);
        }
    }

    private static void entriesThatEnd() {
        Kit.of("Promise 12, why, by Term 2", "their NONCES are DEAD there, MEASURED of OUT is LIFE there, their asks RUN OUT");
        AskedNames x = Kit.told("nodes 3;life 5;link 0 1 9;link 0 2 9;route 0 a 1 0;route 0 b 2 0;",
            "ask 0 a;ask 0 a;fresh 0 a;ask 0 b;ask 0 aa;wait 1;ask 0 a;ask 0 ab;wait 3;wait 1;wait 1;");
        due("none ended", x.state(0, 0, 9, 10), 5);
        due("nor is dead", x.state(0, 0, 9, 30), 0);
        due("those made in minute 0 ended", x.state(0, 0, 10, 10), 1);
        due("dead", x.state(0, 0, 10, 30), 6);
        due("measured of both", x.state(0, 0, 10, 101) * 10 + x.state(0, 0, 10, 102), 55);
        for (int k : new int[] {0, 1, 2, 3, 4, 6}) {
            ranOut(x, k, 5);
        }
        ranOut(x, 7, 6);
        due("all of them", x.state(0, 0, 11, 30), 7);
    }

    // ---- Term 2: an interest comes --------------------------------------------------------------

    private static void interests() {
        loopByDeadNonce();
        loopByNonceOfEntry();
        freshUpToThatMinute();
        joinedInterest();
        noWay();
    }

    private static void loopByDeadNonce() {
        Kit.of("Promise 21, after, by Term 2", "(1) its NONCE is DEAD at N");
        // At 0 the entry of the first ask ended, the second ask brought the name to its store; then the first one's interest comes round.
        AskedNames x = Kit.told("nodes 4;life 4;link 0 1 3;link 1 2 3;link 2 0 3;link 0 3 1;route 0 a 1 0;route 1 a 2 0;"
            + "route 2 a 0 0;route 0 a 3 3;serve 3 a 50;", "ask 0 a;wait 5;ask 0 a;wait 3;wait 1;ask 0 a;");
        ranOut(x, 0, 4);
        got(x, 2, 7, 3, 0);
        due("the store has it", x.stored(0, 0, 4, 0, 0, 0), 1);
        due("on its way, then a NACK", x.state(0, 0, 4, 1) * 10 + x.state(0, 0, 5, 1), 11);
        due("loops", x.after(0, 0, 3), 1);
        due("hits, by the last ask alone", x.after(0, 0, 1), 1);
        due("sent", x.after(0, 0, 0), 6);
    }

    private static void loopByNonceOfEntry() {
        Kit.of("Promise 12, why, by Term 2", "or one of those of the ENTRY of this NAME and WISH: a NACK goes to F: a LOOP at N");
        String ring = "link 0 1 1;link 1 2 1;link 2 0 1;route 0 a 1 0;route 1 a 2 0;route 2 a 0 0;";
        for (String verb : new String[] {"ask", "fresh"}) {
            AskedNames x = Kit.told(ring, verb + " 0 a;wait 2;wait 1;wait 3;");
            due("ahead of the loop", x.state(0, 0, 2, 2), 3);
            refused(x, 0, 6, 4, 2, 0);
            due("loops", x.after(0, 0, 3), 1);
            due("no other joined", x.after(0, 0, 2), 0);
        }
        // Another wish has an entry of its own, so each nonce goes round by itself.
        AskedNames y = Kit.told(ring, "ask 0 a;fresh 0 a;wait 3;wait 3;");
        refused(y, 0, 6, 4, 2, 0);
        refused(y, 1, 6, 4, 2, 0);
        due("loops", y.after(0, 0, 3), 2);
    }

    private static void freshUpToThatMinute() {
        Kit.of("Promise 12, why, by Term 2", "and WISH is 0, or it is FRESH");
        for (int fresh = 0; fresh <= 6; fresh++) {
            String net = "nodes 2;link 0 1 1;route 0 a 1 0;serve 1 a " + fresh + ";";
            for (int minute = 2; minute <= 9; minute++) {
                String ahead = "ask 0 a;wait 2;" + waits(minute - 2);
                AskedNames x = Kit.told(net, ahead + "fresh 0 a;ask 0 a;");
                int k = deedsOf(ahead);
                if (minute <= 1 + fresh) {
                    got(x, k, minute, 0, 1);
                } else {
                    nothingYet(x, k);
                }
                got(x, k + 1, minute, 0, 1);
                due("hits", x.after(0, 0, 1), minute <= 1 + fresh ? 2 : 1);
            }
        }
        Kit.of("Promise 12, why, by Term 2", "of ENTRIES of the NAME at N, all of WISH 0, and of 1, if they are FRESH");
        for (int delay = 1; delay <= 9; delay++) {
            for (int fresh = 0; fresh <= 10; fresh++) {
                AskedNames x = Kit.told("nodes 2;life 99;link 0 1 " + delay + ";route 0 a 1 0;serve 1 a " + fresh + ";", "fresh 0 a;wait 18;");
                if (fresh >= delay) {
                    got(x, 0, 2 * delay, 1, 0);
                } else {
                    nothingYet(x, 0);
                }
                due("dropped", x.after(0, 0, 4), fresh >= delay ? 0 : 1);
                due("stored", x.state(0, 0, 2, 20), fresh >= delay ? 1 : 0);
                due("measured", x.state(0, 0, 2, 101), fresh >= delay ? 2 * delay : NONE);
            }
        }
    }

    private static void joinedInterest() {
        Kit.of("Promise 21, after, by Terms 2 and 5", "JOINED: INTERESTS that (4) took");
        AskedNames x = Kit.told(PAIR, "ask 0 a;".repeat(39) + "wait 2;");
        due("joined", x.after(0, 0, 2), 38);
        due("sent", x.after(0, 0, 0), 2);
        for (int k = 0; k < 39; k++) {
            got(x, k, 2, 1, 0);
        }
        due("mean", x.after(0, 0, 7) * 10 + x.after(0, 0, 8), 21);
        AskedNames y = Kit.told(PAIR, "ask 0 a;fresh 0 a;ask 0 ab;");
        due("of another wish, another name: not", y.after(0, 0, 2), 0);
    }

    private static void noWay() {
        Kit.of("Promise 9, state, by Term 2", "if it can't, it is no more (its NONCE not DEAD), and a NACK goes to F: NO WAY at N");
        AskedNames x = Kit.told("link 0 1 1;route 0 a 1 0;route 1 a 2 0;", "ask 1 a;fresh 2 b;ask 0 a;wait 1;wait 1;");
        refused(x, 0, 0, 1, 1, 1);
        refused(x, 1, 0, 1, 1, 2);
        refused(x, 2, 2, 2, 1, 1);
        for (int n = 1; n <= 5; n++) {
            due("entries at 1", x.state(0, 0, n, 11), 0);
            due("dead at 1", x.state(0, 0, n, 31), 0);
            due("dead at 2", x.state(0, 0, n, 32), 0);
        }
        due("dead at 0, where an entry was", x.state(0, 0, 5, 30), 1);
        due("widest", x.after(0, 0, 6), 1);
    }

    // ---- Term 2: an entry goes on ---------------------------------------------------------------

    private static void goingOn() {
        wayByLeastNode();
        wayByLinksThatAreUp();
        wayByLongestBeginning();
        wayByMeasure();
        wayBackIsNone();
    }

    private static void wayByLeastNode() {
        Kit.of("Promise 11, entry, by Term 2", "is least, of several the least NODE");
        due("all alike", Kit.told(STAR, "ask 0 a;").entry(0, 0, 1, 0, 0, 4), 1);
        for (int way = 1; way <= 5; way++) {
            // One of them is cheaper by 1, in the last row of all.
            AskedNames x = Kit.told(STAR + "route 0 a " + way + " 6;", "ask 0 a;");
            due("the cheapest", x.entry(0, 0, 1, 0, 0, 4), way);
        }
        AskedNames y = Kit.told("link 0 1 1;link 0 2 1;route 0 a 1 99;route 0 a 2 98;", "ask 0 a;");
        due("98 of 99", y.entry(0, 0, 1, 0, 0, 4), 2);
        AskedNames z = Kit.told("link 0 1 1;link 0 2 1;route 0 a 2 0;route 0 a 1 1;", "ask 0 a;");
        due("0 of 1", z.entry(0, 0, 1, 0, 0, 4), 2);
    }

    private static void wayByLinksThatAreUp() {
        Kit.of("Promise 11, entry, by Term 2", "those to a NODE to which there is a LINK that is up");
        StringBuilder cuts = new StringBuilder();
        for (int cut = 1; cut <= 4; cut++) {
            cuts.append("cut ").append(cut).append(" 0;");
            AskedNames x = Kit.told(STAR, cuts + "ask 0 a;");
            due("the least that is up", x.entry(0, 0, cut + 1, 0, 0, 4), cut + 1);
        }
        AskedNames none = Kit.told(STAR, cuts + "cut 0 5;ask 0 a;mend 0 3;ask 0 a;");
        refused(none, 5, 0, 1, 1, 0);
        due("the one that was mended", none.entry(0, 0, 8, 0, 0, 4), 3);
        refused(Kit.told("route 0 a 1 0;", "ask 0 a;"), 0, 0, 1, 1, 0);
        refused(Kit.told("link 0 1 1;", "ask 0 a;"), 0, 0, 1, 1, 0);
    }

    private static void wayByLongestBeginning() {
        Kit.of("Promise 12, why, by Term 2", "of ROUTES at N for the longest BEGINNING of the NAME for which there are any");
        String net = "nodes 6;link 0 1 1;link 0 2 1;link 0 3 1;link 0 4 1;route 0 a 1 0;route 0 ab 2 9;route 0 abc 3 9;route 0 abcd 4 9;";
        String[] names = {"a", "ab", "abc", "abcd", "aa", "aba", "abca", "abce", "acbd"};
        int[] ways = {1, 2, 3, 4, 1, 2, 3, 3, 1};
        for (int i = 0; i < names.length; i++) {
            due("way of " + names[i], Kit.told(net, "ask 0 " + names[i] + ";").entry(0, 0, 1, 0, 0, 4), ways[i]);
        }
        for (int i = 0; i < 4; i++) {
            // No shorter beginning is taken where the longest one's link is down.
            AskedNames x = Kit.told(net, "cut 0 " + ways[i] + ";ask 0 " + names[i] + ";");
            refused(x, 1, 0, 1, 1, 0);
        }
        refused(Kit.told(net, "ask 0 b;"), 0, 0, 1, 1, 0);
        refused(Kit.told("link 0 1 1;route 0 ab 1 0;", "ask 0 a;"), 0, 0, 1, 1, 0);
    }

    private static void wayByMeasure() {
        Kit.of("Promise 11, entry, by Term 2", "the one of which MEASURED (if it was at N of this NODE), else COST, is least");
        for (int cost = 0; cost <= 4; cost++) {
            // 2 is measured by 2 minutes, whatever its cost is; 1 and 3 have their cost.
            AskedNames x = Kit.told("nodes 4;link 0 1 1;link 0 2 1;link 0 3 1;route 0 b 2 0;route 0 a 1 " + cost + ";route 0 a 2 99;route 0 a 3 "
                + cost + ";serve 2 b 9;", "ask 0 b;wait 2;ask 0 a;");
            due("measured", x.state(0, 0, 2, 102), 2);
            due("way by cost " + cost, x.entry(0, 0, 3, 0, 0, 4), cost <= 2 ? 1 : 2);
        }
        // What was measured at another node, or of this one there, does not count.
        AskedNames y = Kit.told("link 0 1 1;link 0 2 1;link 1 2 1;route 1 b 0 0;route 0 a 1 3;route 0 a 2 4;serve 0 b 9;", "ask 1 b;wait 2;ask 0 a;");
        due("measured at 1 of 0", y.state(0, 0, 2, 110), 2);
        due("way by cost", y.entry(0, 0, 3, 0, 0, 4), 1);
    }

    private static void wayBackIsNone() {
        Kit.of("Promise 12, why, by Term 2", "that is not IN, not TRIED");
        AskedNames x = Kit.told("nodes 2;link 0 1 1;route 0 a 1 0;route 1 a 0 0;", "ask 0 a;wait 2;");
        refused(x, 0, 2, 2, 1, 1);
        due("messages", x.after(0, 0, 0), 2);
    }

    // ---- Term 2: data and a nack come -----------------------------------------------------------

    private static void data() {
        dataForNoEntry();
        dataMeasureTheFirst();
        dataGoToAllThatAreIn();
        dataWithoutRoom();
    }

    private static void dataForNoEntry() {
        Kit.of("Promise 21, after, by Terms 2 and 5", "DROPPED: DATA that came over a LINK for no ENTRY");
        AskedNames x = Kit.told("nodes 2;life 3;link 0 1 2;route 0 a 1 0;serve 1 a 9;", "ask 0 a;wait 3;ask 0 ab;wait 1;");
        due("dropped", x.after(0, 0, 4), 1);
        due("not stored", x.state(0, 0, 4, 20), 0);
        due("not measured", x.state(0, 0, 4, 101), 3);
        due("the entry of another name stands", x.state(0, 0, 4, 10), 1);
        due("none is dropped by an ask itself", Kit.told(PAIR, "ask 1 a;").after(0, 0, 4), 0);
    }

    private static void dataMeasureTheFirst() {
        Kit.of("Promise 9, state, by Term 2", "if OUT of the first of these is X, MEASURED at N of X is now less its SENT");
        String net = "life 50;link 0 1 9;link 0 2 1;route 0 a 1 0;route 0 a 2 5;serve 1 a 9;serve 2 a ";
        // The first entry went out to 1, the second one to 2, from where data come.
        AskedNames x = Kit.told(net + "9;", "ask 0 a;cut 0 1;fresh 0 a;wait 2;");
        due("the first one's way is another", x.state(0, 0, 4, 102), NONE);
        due("both are no more", x.state(0, 0, 4, 10), 0);
        AskedNames y = Kit.told(net + "9;", "fresh 0 a;cut 0 1;ask 0 a;wait 2;");
        due("the first one's way is another", y.state(0, 0, 4, 102), NONE);
        due("both are no more", y.state(0, 0, 4, 10), 0);
        AskedNames z = Kit.told(net + "0;", "fresh 0 a;cut 0 1;wait 3;ask 0 a;wait 2;");
        due("stale data are for the second alone", z.state(0, 0, 5, 102), 2);
        due("the first one stands", z.state(0, 0, 5, 10), 1);
        due("its wish", z.entry(0, 0, 5, 0, 0, 1), 1);
    }

    private static void dataGoToAllThatAreIn() {
        Kit.of("Promise 12, why, by Term 2", "DATA are sent to NODES IN, rising, its asks GET them, its NONCES are DEAD at N, it is no more");
        AskedNames x = Kit.told("nodes 6;link 0 4 1;link 1 4 2;link 2 4 3;link 3 4 4;link 4 5 5;route 0 a 4 0;route 1 a 4 0;route 2 a 4 0;"
            + "route 3 a 4 0;route 4 a 5 0;serve 5 a 9;", "ask 0 a;ask 1 a;ask 2 a;ask 3 a;ask 4 a;wait 10;wait 4;");
        due("the ask at 4 was first", x.why(0, 0, 4, 1), 10);
        due("four were sent on", x.state(0, 0, 6, 1), 4);
        due("dead at 4", x.state(0, 0, 6, 34), 5);
        due("no more", x.state(0, 0, 6, 14), 0);
        for (int node = 0; node < 4; node++) {
            got(x, node, 11 + node, 5, 0);
        }
        due("sent", x.after(0, 0, 0), 10);
        due("joined", x.after(0, 0, 2), 4);
    }

    private static void dataWithoutRoom() {
        Kit.of("Promise 10, stored, by Term 2", "DATA are in N's STORE, used last (in place of what it had of the NAME), if there is ROOM");
        AskedNames x = Kit.told("room 1 0;link 0 1 1;link 1 2 1;route 0 a 1 0;route 1 a 2 0;serve 2 a 9;", "ask 0 a;wait 4;ask 1 a;wait 2;");
        got(x, 0, 4, 2, 0);
        got(x, 2, 6, 2, 0);
        due("nothing at 1", x.state(0, 0, 4, 21), 0);
        due("stored at 0", x.state(0, 0, 4, 20), 1);
        due("hits", x.after(0, 0, 1), 0);
    }

    private static void nacks() {
        Kit.of("Promise 12, why, by Term 2", "if there is an ENTRY of the NAME and WISH, OUT of which is X: it goes ON");
        // At 1 the store has what is no longer fresh: data for any, a nack for fresh ones alone.
        AskedNames x = Kit.told("link 0 1 1;link 1 2 1;route 0 a 1 0;route 1 a 2 0;serve 2 a 0;", "ask 1 a;wait 2;cut 1 2;fresh 0 a;ask 0 a;wait 2;");
        refused(x, 3, 4, 2, 1, 1);
        got(x, 4, 4, 1, 1);
        // From a node that is not OUT, and for an entry that is no more.
        AskedNames y = Kit.told("life 4;link 0 1 3;link 0 2 9;route 0 a 1 0;route 0 a 2 2;", "ask 0 a;wait 4;ask 0 a;wait 2;wait 2;");
        due("it stands", y.state(0, 0, 4, 10), 1);
        ranOut(y, 2, 8);
        AskedNames z = Kit.told("nodes 2;life 4;link 0 1 3;route 0 a 1 0;", "ask 0 a;wait 4;wait 2;");
        ranOut(z, 0, 4);
        due("nothing more", z.after(0, 0, 0), 2);
    }

    // ---- Promise 21 -----------------------------------------------------------------------------

    private static void afters() {
        afterNothing();
        afterStop();
        meanInLeastTerms();
        widestBehindADeed();
        afterOfNone();
    }

    private static void afterNothing() {
        Kit.of("Promise 21, after", "7, 8: N, D of MEAN (NONE)");
        for (String run : new String[] {"", "wait 20;", "mend 0 1;ask 1 a;"}) {
            AskedNames x = Kit.told(PAIR, run);
            for (int what = 0; what < 7; what++) {
                due("after(0, 0, " + what + ") of " + run, x.after(0, 0, what), 0);
            }
            due("N", x.after(0, 0, 7), NONE);
            due("D", x.after(0, 0, 8), NONE);
        }
        AskedNames y = Kit.told(PAIR + "life 1;", "ask 0 a;ask 0 b;wait 1;ask 0 a;");
        due("no ask got data: N", y.after(0, 0, 7), NONE);
        due("no ask got data: D", y.after(0, 0, 8), NONE);
    }

    private static void afterStop() {
        Kit.of("Promise 21, after, by Term 5", "Behind all DEEDS up to STOP");
        AskedNames x = Kit.told(PAIR, "ask 0 a;wait 1;wait 1;mend 0 1;ask 0 ab;wait 20;ask 0 a;");
        int[] due = {2, 0, 0, 0, 0, 0, 1, 2, 1};
        for (int what = 0; what < 9; what++) {
            due("after(0, 0, " + what + ")", x.after(0, 0, what), due[what]);
        }
    }

    private static void meanInLeastTerms() {
        Kit.of("Promise 21, after, by Term 5", "in the mean, a fraction in least terms (none: none)");
        int[][] due = {{1, 0, 2, 1}, {0, 1, 0, 1}, {1, 1, 1, 1}, {1, 2, 2, 3}, {2, 1, 4, 3}, {2, 2, 1, 1}, {3, 1, 3, 2}, {1, 3, 1, 2}, {0, 9, 0, 1}, {9, 0, 2, 1}};
        for (int[] d : due) {
            // So many wait two minutes, so many are where it is served.
            AskedNames x = Kit.told(PAIR, "ask 0 a;".repeat(d[0]) + "ask 1 a;".repeat(d[1]) + "ask 1 b;wait 2;");
            due("N of " + d[0] + " and " + d[1], x.after(0, 0, 7), d[2]);
            due("D of " + d[0] + " and " + d[1], x.after(0, 0, 8), d[3]);
        }
        // The longest of all: asked for in minute 0, got in minute 90.
        String far = LINE.replace("1;", "9;") + "serve 5 a 0;";
        AskedNames y = Kit.told(far, "ask 0 a;" + waits(99));
        due("N", y.after(0, 0, 7), 90);
        due("D", y.after(0, 0, 8), 1);
        AskedNames z = Kit.told(PAIR, "ask 0 a;wait 1;ask 0 a;wait 1;");
        due("each from its own asking: N", z.after(0, 0, 7), 3);
        due("each from its own asking: D", z.after(0, 0, 8), 2);
    }

    private static void widestBehindADeed() {
        Kit.of("Promise 21, after, by Term 5", "WIDEST: the most ENTRIES at all NODES together at any time behind a DEED");
        due("within a wait alone", Kit.told(LINE, "ask 0 a;wait 10;").after(0, 0, 6), 1);
        due("behind each minute", Kit.told(LINE, "ask 0 a;" + "wait 1;".repeat(10)).after(0, 0, 6), 5);
        due("at once", Kit.told(LINE, "ask 0 a;ask 1 a;ask 2 a;ask 3 a;ask 4 a;ask 5 a;").after(0, 0, 6), 5);
        due("not in the end alone", Kit.told(PAIR, "ask 0 a;ask 0 ab;wait 2;ask 0 ac;wait 2;").after(0, 0, 6), 2);
        due("where all was done at once", Kit.told(PAIR, "ask 1 a;ask 0 b;").after(0, 0, 6), 0);
    }

    private static void afterOfNone() {
        Kit.of("Promise 21, after", "-2: there is none such (of either), or for another what.");
        AskedNames x = Kit.told(PAIR, "ask 0 a;");
        for (int many = 1; many <= 2; many++) {
            for (int k : Kit.noneOf(many)) {
                due("net " + k, x.after(k, 0, 0), -2);
                due("run " + k, x.after(0, k, 0), -2);
                due("mean of run " + k, x.after(0, k, 8), -2);
            }
            due("the last ones", x.after(many - 1, many - 1, 0), 1);
            Kit.tell(x, 0, PAIR);
            Kit.tell(x, 1, "ask 0 a;");
        }
        for (int what : Kit.noneOf(9)) {
            due("what " + what, x.after(0, 0, what), -2);
        }
    }
}
