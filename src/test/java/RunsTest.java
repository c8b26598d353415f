/** Promises 8 to 12 and 21: how a run goes, by hand. */
public final class RunsTest {

    private static final int NONE = AskedNames.NONE;

    private static final String SQUARE = "nodes 4;link 0 1 2;link 1 2 3;link 0 3 1;link 3 2 4;route 0 a 1 5;route 0 a 3 9;"
        + "route 1 a 2 1;route 3 a 2 1;route 0 ab 3 2;serve 2 a 5;serve 2 abc 50;room 0 1;";
    private static final String DAY = "ask 0 ac;ask 0 ac;wait 5;wait 5;ask 0 ac;ask 0 b;fresh 1 ac;wait 6;fresh 1 ac;"
        + "cut 1 2;ask 0 abc;wait 10;ask 0 ad;wait 2;wait 2;wait 15;";
    private static final String RING = "nodes 3;link 0 1 1;link 1 2 1;link 2 0 1;route 0 a 1 0;route 1 a 2 0;route 2 a 0 0;"
        + "route 2 a 0 0;route 2 a 1 0;";
    private static final String PAIR = "nodes 2;link 0 1 1;route 0 a 1 0;serve 1 a 9;";

    public static void main(String[] args) {
        stops();
        day();
        statesOfTheDay();
        storesOfTheDay();
        entriesOfTheDay();
        wrongCallsOfTheDay();
        loopByEntry();
        loopByDead();
        runOut();
        stores();
        noDoubles();
        noRoom();
        freshness();
        oneForBothWishes();
        joinedFromNodes();
        waysByMeasure();
        longestServe();
        noWayIsNotDead();
        lostOnTheWayBack();
        cutBehindSending();
        lateAnswers();
        firstNonceGoesOn();
        serverIsKept();
        mean();
        Kit.finish();
    }

    private static void due(String call, int got, int want) {
        Kit.due(call, got, want);
    }

    /** All of why() of a deed, and that no other is told. */
    private static void why(AskedNames x, int k, int... want) {
        for (int what = 0; what < 7; what++) {
            due("why(0, 0, " + k + ", " + what + ")", x.why(0, 0, k, what), want[what]);
        }
        due("why(0, 0, " + k + ", 7)", x.why(0, 0, k, 7), -2);
        due("why(0, 0, " + k + ", -1)", x.why(0, 0, k, -1), -2);
    }

    private static void after(AskedNames x, int... want) {
        for (int what = 0; what < 9; what++) {
            due("after(0, 0, " + what + ")", x.after(0, 0, what), want[what]);
        }
    }

    private static void entry(AskedNames x, int n, int node, int i, int... want) {
        for (int what = 0; what < 8; what++) {
            due("entry(0, 0, " + n + ", " + node + ", " + i + ", " + what + ")", x.entry(0, 0, n, node, i, what), want[what]);
        }
        due("entry, what 8", x.entry(0, 0, n, node, i, 8), NONE);
        due("entry, what -1", x.entry(0, 0, n, node, i, -1), NONE);
    }

    private static void stored(AskedNames x, int n, int node, int i, int name, int until, int server) {
        due("stored name", x.stored(0, 0, n, node, i, 0), name);
        due("stored until", x.stored(0, 0, n, node, i, 1), until);
        due("stored server", x.stored(0, 0, n, node, i, 2), server);
        due("stored, what 3", x.stored(0, 0, n, node, i, 3), NONE);
    }

    private static void stop(String net, String run, int want) {
        due("stop of " + run, Kit.told(net, run).stop(0, 0), want);
    }

    private static void stops() {
        stop(PAIR, "", 0);
        stop(PAIR, "ask 0 a;wait 1;", 2);
        stop(PAIR, "wait 1;ask 2 a;wait 1;", 1);
        stop(PAIR, "fresh 2 a;", 0);
        stop(PAIR, "cut 0 1;mend 1 0;cut 1 0;mend 0 1;", 4);
        stop(PAIR, "cut 0 1;cut 1 0;", 1);
        stop(PAIR, "mend 0 1;", 0);
        stop(PAIR, "cut 0 2;", 0);
        stop("link 0 1 1;", "wait 1;cut 0 2;", 1);
        stop(PAIR, "wait 20;wait 20;wait 20;wait 20;wait 19;ask 0 a;wait 1;", 6);
        stop(PAIR, "wait 20;wait 20;wait 20;wait 20;wait 20;wait 1;", 4);
        AskedNames x = Kit.told(PAIR, "");
        due("stop(1, 0)", x.stop(1, 0), NONE);
        due("stop(0, 1)", x.stop(0, 1), NONE);
        due("stop(-1, 0)", x.stop(-1, 0), NONE);
        due("stop(0, -1)", x.stop(0, -1), NONE);
    }

    private static void day() {
        AskedNames x = Kit.told(SQUARE, DAY);
        due("stop", x.stop(0, 0), 16);
        why(x, 0, 1, 10, 2, 0, NONE, NONE, NONE);
        why(x, 1, 1, 10, 2, 0, NONE, NONE, NONE);
        why(x, 4, 1, 10, 0, 1, NONE, NONE, NONE);
        why(x, 5, 2, 10, NONE, NONE, 1, 1, 0);
        why(x, 6, 1, 10, 1, 1, NONE, NONE, NONE);
        why(x, 8, 3, 36, NONE, NONE, NONE, NONE, NONE);
        why(x, 10, 1, 26, 2, 0, NONE, NONE, NONE);
        // The first way answers that it knows none, the second one brings it.
        why(x, 12, 1, 40, 2, 0, NONE, NONE, NONE);
        after(x, 15, 2, 1, 0, 0, 1, 2, 22, 3);
    }

    private static void statesOfTheDay() {
        AskedNames x = Kit.told(SQUARE, DAY);
        int[][] due = {
            {0, 0, 0}, {0, 1, 0}, {0, 2, 0}, {0, 3, 0}, {0, 101, NONE},
            {1, 0, 0}, {1, 1, 1}, {1, 2, 1}, {1, 10, 1}, {1, 11, 0},
            {2, 1, 1}, {2, 2, 1}, {2, 30, 0},
            {3, 0, 5}, {3, 1, 1}, {3, 2, 2}, {3, 11, 1},
            {4, 0, 10}, {4, 1, 0}, {4, 2, 0}, {4, 20, 1}, {4, 21, 1}, {4, 22, 0}, {4, 30, 2}, {4, 31, 1}, {4, 32, 0},
            {4, 101, 10}, {4, 112, 6}, {4, 110, NONE}, {4, 103, NONE}, {4, 100, NONE},
            {9, 3, 0}, {10, 3, 1}, {10, 1, 1}, {11, 1, 2},
            {12, 0, 26}, {12, 103, 10}, {12, 132, 8}, {12, 112, 6},
            {13, 10, 1}, {14, 1, 1}, {15, 1, 1}, {15, 10, 1},
            {16, 0, 45}, {16, 1, 0}, {16, 2, 0}, {16, 3, 1}, {16, 20, 1}, {16, 21, 1}, {16, 23, 2},
            {16, 30, 4}, {16, 31, 2}, {16, 32, 0}, {16, 33, 2}, {16, 112, 20}, {16, 103, 10}, {16, 101, 10}};
        for (int[] d : due) {
            due("state(0, 0, " + d[0] + ", " + d[1] + ")", x.state(0, 0, d[0], d[1]), d[2]);
        }
    }

    private static void storesOfTheDay() {
        AskedNames x = Kit.told(SQUARE, DAY);
        stored(x, 4, 0, 0, Kit.name("ac"), 10, 2);
        stored(x, 4, 1, 0, Kit.name("ac"), 10, 2);
        stored(x, 12, 0, 0, Kit.name("abc"), 71, 2);
        stored(x, 16, 0, 0, Kit.name("ad"), 40, 2);
        stored(x, 16, 3, 0, Kit.name("abc"), 71, 2);
        stored(x, 16, 3, 1, Kit.name("ad"), 40, 2);
        due("not so many", x.stored(0, 0, 16, 3, 2, 0), NONE);
        due("not so many", x.stored(0, 0, 16, 3, -1, 0), NONE);
        due("not so many", x.stored(0, 0, 3, 0, 0, 0), NONE);
        due("no such node", x.stored(0, 0, 16, 4, 0, 0), NONE);
        due("no such node", x.stored(0, 0, 16, -1, 0, 0), NONE);
        due("no such state", x.stored(0, 0, 17, 3, 0, 0), NONE);
        due("no such state", x.stored(0, 0, -1, 3, 0, 0), NONE);
        due("no such run", x.stored(0, 1, 16, 3, 0, 0), NONE);
        due("no such net", x.stored(1, 0, 16, 3, 0, 0), NONE);
        due("another what", x.stored(0, 0, 16, 3, 0, -1), NONE);
    }

    private static void entriesOfTheDay() {
        AskedNames x = Kit.told(SQUARE, DAY);
        entry(x, 2, 0, 0, Kit.name("ac"), 0, 0, 2, 1, 2, 0, 20);
        entry(x, 3, 1, 0, Kit.name("ac"), 0, 1, 0, 2, 4, 2, 22);
        entry(x, 9, 1, 0, Kit.name("ac"), 1, 0, 1, 2, 4, 16, 36);
        entry(x, 11, 0, 0, Kit.name("abc"), 0, 0, 1, 3, 8, 16, 36);
        // The second way is out, both are tried, and it ends as it would have.
        entry(x, 15, 0, 0, Kit.name("ad"), 0, 0, 1, 3, 10, 30, 46);
        due("not so many", x.entry(0, 0, 15, 0, 1, 0), NONE);
        due("not so many", x.entry(0, 0, 15, 0, -1, 0), NONE);
        due("no such node", x.entry(0, 0, 15, 4, 0, 0), NONE);
        due("no such node", x.entry(0, 0, 15, -1, 0, 0), NONE);
        due("no such state", x.entry(0, 0, 17, 0, 0, 0), NONE);
        due("no such state", x.entry(0, 0, -1, 0, 0, 0), NONE);
        due("no such run", x.entry(0, 1, 15, 0, 0, 0), NONE);
        due("no such net", x.entry(1, 0, 15, 0, 0, 0), NONE);
    }

    private static void wrongCallsOfTheDay() {
        AskedNames x = Kit.told(SQUARE, DAY + "mend 0 1;ask 0 ac;");
        due("stop", x.stop(0, 0), 16);
        due("a state behind STOP", x.state(0, 0, 17, 0), -2);
        due("a state at STOP", x.state(0, 0, 16, 0), 45);
        due("no such state", x.state(0, 0, -1, 0), -2);
        due("no such run", x.state(0, 1, 0, 0), -2);
        due("no such net", x.state(1, 0, 0, 0), -2);
        for (int what : new int[] {-1, 4, 9, 14, 19, 24, 34, 36, 40, 99, 104, 140, 144, 1000, Integer.MAX_VALUE, Integer.MIN_VALUE}) {
            due("state, what " + what, x.state(0, 0, 16, what), -2);
        }
        due("no ask", x.why(0, 0, 2, 0), -2);
        due("not done", x.why(0, 0, 17, 0), -2);
        due("no deed", x.why(0, 0, 18, 0), -2);
        due("no deed", x.why(0, 0, -1, 0), -2);
        due("no such run", x.why(0, 1, 0, 0), -2);
        due("no such net", x.why(1, 0, 0, 0), -2);
        due("after, what 9", x.after(0, 0, 9), -2);
        due("after, what -1", x.after(0, 0, -1), -2);
        due("after, no such run", x.after(0, 1, 0), -2);
        due("after, no such net", x.after(1, 0, 0), -2);
    }

    private static void loopByEntry() {
        AskedNames x = Kit.told(RING, "ask 0 a;wait 3;wait 1;wait 1;wait 1;wait 1;");
        entry(x, 2, 2, 0, 1, 0, 2, 0, 0, 1, 2, 22);
        due("entries ahead of the first refusal", x.state(0, 0, 2, 2), 3);
        due("entries behind it", x.state(0, 0, 3, 2), 2);
        due("dead there", x.state(0, 0, 3, 32), 1);
        due("nothing measured", x.state(0, 0, 6, 101), NONE);
        why(x, 0, 2, 6, NONE, NONE, 4, 2, 0);
        after(x, 6, 0, 0, 1, 0, 0, 3, NONE, NONE);
        // Three entries stand only while minutes go by, not behind a deed.
        AskedNames y = Kit.told(RING, "ask 0 a;wait 4;wait 3;");
        due("widest", y.after(0, 0, 6), 2);
    }

    private static void loopByDead() {
        AskedNames x = Kit.told("life 4;link 0 1 3;link 1 2 3;link 2 0 3;route 0 a 1 0;route 1 a 2 0;route 2 a 0 0;",
            "ask 0 a;wait 9;wait 20;");
        why(x, 0, 3, 4, NONE, NONE, NONE, NONE, NONE);
        due("measured is life", x.state(0, 0, 2, 101), 4);
        due("the entry at 2 stands", x.state(0, 0, 2, 12), 1);
        after(x, 4, 0, 0, 1, 0, 0, 1, NONE, NONE);
        due("dead everywhere", x.state(0, 0, 3, 32), 1);
    }

    private static void runOut() {
        AskedNames x = Kit.told("nodes 2;life 2;link 0 1 3;route 0 a 1 7;serve 1 a 9;", "ask 0 a;wait 1;wait 1;wait 4;");
        due("entry at minute 1", x.state(0, 0, 2, 10), 1);
        due("none at minute 2", x.state(0, 0, 3, 10), 0);
        due("dead", x.state(0, 0, 3, 30), 1);
        due("measured", x.state(0, 0, 3, 101), 2);
        why(x, 0, 3, 2, NONE, NONE, NONE, NONE, NONE);
        after(x, 2, 0, 0, 0, 1, 0, 1, NONE, NONE);
        due("data for no entry are not stored", x.state(0, 0, 4, 20), 0);
        due("nor measured", x.state(0, 0, 4, 101), 2);
        // An entry that ends in the minute in which its data come is no more then.
        AskedNames y = Kit.told("nodes 2;life 6;link 0 1 3;route 0 a 1 7;serve 1 a 9;", "ask 0 a;wait 6;");
        due("run out", y.why(0, 0, 0, 0), 3);
        AskedNames z = Kit.told("nodes 2;life 7;link 0 1 3;route 0 a 1 7;serve 1 a 9;", "ask 0 a;wait 5;wait 1;");
        due("got", z.why(0, 0, 0, 1), 6);
        due("nothing yet, a minute before", Kit.told("nodes 2;life 7;link 0 1 3;route 0 a 1 7;serve 1 a 9;", "ask 0 a;wait 5;").why(0, 0, 0, 0), 0);
        due("no minute then", Kit.told(PAIR, "ask 0 a;wait 1;").why(0, 0, 0, 1), NONE);
    }

    private static void stores() {
        AskedNames x = Kit.told(PAIR, "ask 0 a;wait 2;ask 0 ab;wait 2;ask 0 a;ask 0 ac;wait 2;wait 20;fresh 0 a;wait 2;");
        stored(x, 4, 0, 0, Kit.name("a"), 10, 1);
        stored(x, 4, 0, 1, Kit.name("ab"), 12, 1);
        stored(x, 5, 0, 0, Kit.name("ab"), 12, 1);
        stored(x, 5, 0, 1, Kit.name("a"), 10, 1);
        // What was used longest ago is away.
        stored(x, 7, 0, 0, Kit.name("a"), 10, 1);
        stored(x, 7, 0, 1, Kit.name("ac"), 14, 1);
        // In place of what it had of the name, and used last.
        stored(x, 10, 0, 0, Kit.name("ac"), 14, 1);
        stored(x, 10, 0, 1, Kit.name("a"), 36, 1);
        due("names", x.state(0, 0, 10, 20), 2);
        due("a server keeps nothing", x.state(0, 0, 10, 21), 0);
        why(x, 4, 1, 4, 0, 1, NONE, NONE, NONE);
        why(x, 8, 1, 28, 1, 0, NONE, NONE, NONE);
    }

    private static void noDoubles() {
        AskedNames x = Kit.told(PAIR + "room 0 4;", "ask 0 a;wait 2;ask 0 ab;wait 20;fresh 0 a;wait 2;");
        due("names", x.state(0, 0, 6, 20), 2);
        stored(x, 6, 0, 0, Kit.name("ab"), 12, 1);
        stored(x, 6, 0, 1, Kit.name("a"), 32, 1);
    }

    private static void noRoom() {
        AskedNames x = Kit.told(PAIR + "room 0 0;", "ask 0 a;wait 2;ask 0 a;wait 2;");
        due("nothing is kept", x.state(0, 0, 2, 20), 0);
        why(x, 0, 1, 2, 1, 0, NONE, NONE, NONE);
        why(x, 2, 1, 4, 1, 0, NONE, NONE, NONE);
        after(x, 4, 0, 0, 0, 0, 0, 1, 2, 1);
    }

    private static void freshness() {
        // Data that are fresh up to the minute in which they were served come too late for a fresh ask.
        AskedNames x = Kit.told("nodes 2;life 9;link 0 1 1;route 0 a 1 0;serve 1 a 0;", "ask 0 a;fresh 0 a;wait 2;wait 8;");
        entry(x, 3, 0, 0, 1, 1, 0, 1, 1, 2, 0, 9);
        due("entries behind the data", x.state(0, 0, 3, 2), 1);
        why(x, 0, 1, 2, 1, 0, NONE, NONE, NONE);
        why(x, 1, 3, 9, NONE, NONE, NONE, NONE, NONE);
        after(x, 4, 0, 0, 0, 1, 0, 2, 2, 1);
        AskedNames w = Kit.told("nodes 2;link 0 1 1;route 0 a 1 0;serve 1 a 1;", "fresh 0 a;wait 2;");
        why(w, 0, 1, 2, 1, 0, NONE, NONE, NONE);
        // At the server itself they are fresh.
        AskedNames y = Kit.told("nodes 2;serve 1 a 0;", "fresh 1 a;");
        why(y, 0, 1, 0, 1, 0, NONE, NONE, NONE);
        // A store answers a fresh ask up to the minute until which it is fresh, another ask later, too.
        AskedNames z = Kit.told("nodes 2;link 0 1 1;route 0 a 1 0;serve 1 a 3;", "ask 0 a;wait 4;fresh 0 a;wait 1;ask 0 a;fresh 0 a;");
        why(z, 2, 1, 4, 0, 1, NONE, NONE, NONE);
        why(z, 4, 1, 5, 0, 1, NONE, NONE, NONE);
        why(z, 5, 0, NONE, NONE, NONE, NONE, NONE, NONE);
    }

    private static void oneForBothWishes() {
        AskedNames x = Kit.told(PAIR, "ask 0 a;fresh 0 a;wait 1;wait 1;");
        entry(x, 3, 0, 0, 1, 0, 0, 1, 1, 2, 0, 20);
        entry(x, 3, 0, 1, 1, 1, 0, 1, 1, 2, 0, 20);
        why(x, 0, 1, 2, 1, 0, NONE, NONE, NONE);
        why(x, 1, 1, 2, 1, 0, NONE, NONE, NONE);
        after(x, 4, 0, 0, 0, 1, 0, 2, 2, 1);
    }

    private static void joinedFromNodes() {
        AskedNames x = Kit.told("nodes 4;link 0 2 1;link 1 2 1;link 2 3 5;route 0 a 2 0;route 1 a 2 0;route 2 a 3 0;serve 3 a 9;",
            "ask 1 a;ask 0 a;wait 1;ask 2 a;wait 10;wait 1;");
        entry(x, 4, 2, 0, 1, 0, 3, 1, 3, 8, 1, 21);
        due("dead at 2", x.state(0, 0, 5, 32), 3);
        due("dead at 0", x.state(0, 0, 6, 30), 1);
        why(x, 0, 1, 12, 3, 0, NONE, NONE, NONE);
        why(x, 1, 1, 12, 3, 0, NONE, NONE, NONE);
        why(x, 3, 1, 11, 3, 0, NONE, NONE, NONE);
        after(x, 6, 0, 2, 0, 0, 0, 3, 34, 3);
    }

    private static void waysByMeasure() {
        String net = "nodes 4;link 0 1 4;link 0 2 1;link 0 3 1;route 0 a 1 3;route 0 a 2 5;route 0 a 3 5;"
            + "serve 1 a 9;serve 2 a 9;serve 3 a 9;room 0 0;";
        AskedNames x = Kit.told(net, "ask 0 a;wait 8;ask 0 a;wait 2;ask 0 a;cut 0 2;ask 0 aa;");
        due("by cost", x.entry(0, 0, 1, 0, 0, 4), 1);
        due("measured 8 is more than the cost 5, the least node", x.entry(0, 0, 3, 0, 0, 4), 2);
        due("measured", x.state(0, 0, 4, 101), 8);
        due("measured", x.state(0, 0, 4, 102), 2);
        due("measured 2", x.entry(0, 0, 5, 0, 0, 4), 2);
        due("a link that is down is no way", x.entry(0, 0, 7, 0, 1, 4), 3);
        // Nothing goes back to where it came from, and no shorter beginning is taken.
        AskedNames y = Kit.told("nodes 3;link 0 1 1;link 1 2 1;route 0 a 1 0;route 1 ab 0 0;route 1 a 2 0;serve 2 a 0;",
            "ask 0 ab;ask 0 ac;wait 2;wait 2;");
        why(y, 0, 2, 2, NONE, NONE, 2, 1, 1);
        why(y, 1, 1, 4, 2, 0, NONE, NONE, NONE);
        // Of two routes to one node the cheaper one counts.
        AskedNames z = Kit.told("link 0 1 1;link 0 2 1;route 0 a 2 9;route 0 a 1 5;route 0 a 2 4;", "ask 0 a;");
        due("the cheaper one", z.entry(0, 0, 1, 0, 0, 4), 2);
    }

    private static void longestServe() {
        String net = "nodes 2;link 0 1 1;route 0 a 1 0;serve 1 a 5;serve 1 ab 7;serve 1 ab 9;serve 1 abcd 30;serve 0 b 1;room 0 4;";
        AskedNames x = Kit.told(net, "ask 0 a;ask 0 abc;ask 0 abcd;ask 0 aa;wait 2;ask 0 bzz;");
        stored(x, 5, 0, 0, Kit.name("a"), 6, 1);
        stored(x, 5, 0, 1, Kit.name("abc"), 8, 1);
        stored(x, 5, 0, 2, Kit.name("abcd"), 31, 1);
        stored(x, 5, 0, 3, Kit.name("aa"), 6, 1);
        why(x, 5, 1, 2, 0, 0, NONE, NONE, NONE);
    }

    private static void noWayIsNotDead() {
        AskedNames x = Kit.told("nodes 2;link 0 1 1;route 0 a 1 0;", "ask 0 a;ask 1 a;wait 1;wait 1;");
        due("not dead at 1", x.state(0, 0, 3, 31), 0);
        due("dead at 0", x.state(0, 0, 4, 30), 1);
        why(x, 0, 2, 2, NONE, NONE, 2, 1, 1);
        why(x, 1, 2, 0, NONE, NONE, 1, 1, 1);
        due("a refusal measures nothing", x.state(0, 0, 4, 101), NONE);
        after(x, 2, 0, 0, 0, 0, 0, 1, NONE, NONE);
    }

    private static void lostOnTheWayBack() {
        AskedNames x = Kit.told("nodes 2;life 5;link 0 1 1;route 0 a 1 0;", "ask 0 a;cut 0 1;wait 1;wait 5;mend 0 1;wait 5;");
        why(x, 0, 3, 5, NONE, NONE, NONE, NONE, NONE);
        after(x, 1, 0, 0, 0, 0, 1, 1, NONE, NONE);
        due("links down", x.state(0, 0, 4, 3), 1);
        due("links down", x.state(0, 0, 5, 3), 0);
    }

    private static void cutBehindSending() {
        AskedNames x = Kit.told("nodes 2;link 0 1 3;route 0 a 1 0;serve 1 a 1;", "ask 0 a;wait 3;cut 0 1;wait 3;");
        due("it comes though its link is cut", x.why(0, 0, 0, 1), 6);
        due("no link that is up", Kit.told(PAIR, "cut 0 1;ask 0 a;").why(0, 0, 1, 5), 1);
    }

    private static void lateAnswers() {
        // A refusal from a node that is no longer the way out changes nothing.
        String net = "life 4;link 0 1 3;link 0 2 9;route 0 a 1 0;route 0 a 2 2;";
        AskedNames x = Kit.told(net, "ask 0 a;wait 4;ask 0 a;wait 2;wait 2;");
        entry(x, 3, 0, 0, 1, 0, 0, 1, 2, 4, 4, 8);
        due("the refusal has come", x.state(0, 0, 4, 1), 1);
        entry(x, 4, 0, 0, 1, 0, 0, 1, 2, 4, 4, 8);
        why(x, 0, 3, 4, NONE, NONE, NONE, NONE, NONE);
        why(x, 2, 3, 8, NONE, NONE, NONE, NONE, NONE);
        // Data from such a node are taken, but nothing is measured by them.
        AskedNames y = Kit.told(net + "serve 1 a 9;", "ask 0 a;wait 4;ask 0 a;wait 2;");
        why(y, 2, 1, 6, 1, 0, NONE, NONE, NONE);
        due("measured of 1", y.state(0, 0, 4, 101), 4);
        due("measured of 2", y.state(0, 0, 4, 102), NONE);
    }

    private static void firstNonceGoesOn() {
        // At 2 the second ask comes first; with its nonce the interest that goes round to 0 is no loop there.
        AskedNames x = Kit.told("nodes 5;life 60;link 0 2 9;link 1 2 1;link 2 3 9;link 2 4 1;link 4 0 1;"
            + "route 0 a 2 0;route 1 a 2 0;route 2 a 3 0;route 2 a 4 5;route 4 a 0 0;", "ask 0 a;ask 1 a;wait 20;wait 1;");
        entry(x, 4, 0, 0, 1, 0, 16, 1, 2, 4, 0, 60);
        entry(x, 4, 2, 0, 1, 0, 3, 0, 4, 24, 19, 61);
        after(x, 6, 0, 2, 0, 0, 0, 4, NONE, NONE);
    }

    private static void serverIsKept() {
        AskedNames x = Kit.told("link 0 1 1;link 1 2 1;route 0 a 1 0;route 1 a 2 0;serve 2 a 9;", "ask 1 a;wait 2;ask 0 a;wait 2;");
        stored(x, 4, 0, 0, 1, 10, 2);
        why(x, 2, 1, 4, 1, 1, NONE, NONE, NONE);
    }

    private static void mean() {
        AskedNames x = Kit.told(PAIR, "ask 1 a;ask 1 a;");
        due("0 minutes", x.after(0, 0, 7), 0);
        due("in least terms", x.after(0, 0, 8), 1);
        AskedNames y = Kit.told(PAIR, "ask 0 a;wait 2;ask 0 a;ask 1 a;ask 1 b;");
        due("2 minutes of three", y.after(0, 0, 7), 2);
        due("2 minutes of three", y.after(0, 0, 8), 3);
        due("none", Kit.told(PAIR, "ask 1 b;").after(0, 0, 7), NONE);
        due("none", Kit.told(PAIR, "").after(0, 0, 8), NONE);
    }
}
