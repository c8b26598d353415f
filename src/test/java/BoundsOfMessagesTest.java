/** Term 2, by promises 9 to 12 and 21: each sentence that names a bound of messages and minutes has a test of its own. */
public final class BoundsOfMessagesTest {

    private static final int NONE = AskedNames.NONE;

    public static void main(String[] args) {
        messages();
        minutes();
        interests();
        goingOn();
        data();
        nacks();
        Kit.finish();
    }

    private static void due(String call, int got, int want) {
        Kit.due(call, got, want);
    }

    // ---- Term 2: messages and minutes -----------------------------------------------------------

    private static void messages() {
        messagesComeByDelay();
        messagesOverACutLink();
        messagesThatAreLost();
        messagesInTheirRow();
    }

    private static void messagesComeByDelay() {
        Kit.of("Promise 9, state, by Term 2", "comes DELAY minutes later");
        for (int delay = 1; delay <= 9; delay++) {
            String net = "nodes 3;life 99;link 0 1 " + delay + ";link 1 2 9;route 0 a 1 0;route 1 a 2 0;";
            AskedNames x = Kit.told(net, "ask 0 a;" + "wait 1;".repeat(delay));
            for (int n = 1; n <= delay + 1; n++) {
                due("entries at 1 in minute " + (n - 1), x.state(0, 0, n, 11), n <= delay ? 0 : 1);
                due("on their ways", x.state(0, 0, n, 1), 1);
            }
            AskedNames y = Kit.told("nodes 2;life 99;link 1 0 " + delay + ";route 0 a 1 0;serve 1 a 0;", "ask 0 a;wait " + (2 * delay - 1) + ";");
            Kit.nothingYet(y, 0);
            AskedNames z = Kit.told("nodes 2;life 99;link 1 0 " + delay + ";route 0 a 1 0;serve 1 a 0;", "ask 0 a;wait " + 2 * delay + ";");
            Kit.got(z, 0, 2 * delay, 1, 0);
            due("measured", z.state(0, 0, 2, 101), 2 * delay);
        }
    }

    private static void messagesOverACutLink() {
        Kit.of("Promise 12, why, by Term 2", "(though it be cut then)");
        String net = "nodes 2;link 0 1 3;route 0 a 1 0;serve 1 a 9;";
        Kit.got(Kit.told(net, "ask 0 a;wait 3;cut 0 1;wait 3;"), 0, 6, 1, 0);
        Kit.got(Kit.told(net, "ask 0 a;cut 0 1;wait 2;mend 0 1;wait 4;"), 0, 6, 1, 0);
        Kit.got(Kit.told(net, "ask 0 a;wait 3;cut 0 1;wait 1;mend 0 1;wait 2;"), 0, 6, 1, 0);
        due("none is lost", Kit.told(net, "ask 0 a;wait 3;cut 0 1;wait 3;").after(0, 0, 5), 0);
    }

    private static void messagesThatAreLost() {
        String net = "nodes 2;life 9;link 0 1 1;route 0 a 1 0;";
        for (String serve : new String[] {"", "serve 1 a 9;"}) {
            Kit.of("Promise 12, why, by Term 2", "over another one it is lost");
            AskedNames x = Kit.told(net + serve, "ask 0 a;cut 0 1;wait 1;mend 0 1;wait 7;wait 1;");
            due("none on their ways", x.state(0, 0, 3, 1), 0);
            due("the entry stands", x.state(0, 0, 5, 10), 1);
            Kit.ranOut(x, 0, 9);
            Kit.of("Promise 21, after, by Term 5", "SENT: how many MESSAGES in all (those lost not)");
            due("sent", x.after(0, 0, 0), 1);
            Kit.of("Promise 21, after, by Term 5", "MISSED: MESSAGES that were lost over LINKS");
            due("missed", x.after(0, 0, 5), 1);
        }
        Kit.of("Promise 21, after, by Term 5", "HITS: DATA that went from STORES");
        AskedNames y = Kit.told("link 0 1 1;link 1 2 1;route 0 a 1 0;route 1 a 2 0;serve 2 a 9;",
            "ask 1 a;wait 2;ask 1 a;ask 0 a;wait 2;ask 0 a;");
        due("hits by an ask, a node, an ask", y.after(0, 0, 1), 3);
        due("sent", y.after(0, 0, 0), 4);
        AskedNames z = Kit.told("link 0 1 1;link 1 2 1;route 0 a 1 0;route 1 a 2 0;serve 2 a 9;", "ask 1 a;wait 2;ask 0 a;cut 0 1;wait 1;");
        due("a hit, though its data are lost", z.after(0, 0, 1), 1);
        due("missed", z.after(0, 0, 5), 1);
        due("sent", z.after(0, 0, 0), 3);
    }

    private static void messagesInTheirRow() {
        Kit.of("Promise 10, stored, by Term 2", "then MESSAGES that come in it, in the row in which they were sent");
        String net = "nodes 4;life 99;link 0 1 9;link 0 2 1;link 2 3 8;route 0 aa 1 0;route 0 ab 2 0;route 2 ab 3 0;serve 1 a 9;serve 3 a 9;";
        for (String asks : new String[] {"ask 0 ab;ask 0 aa;", "ask 0 aa;ask 0 ab;"}) {
            AskedNames x = Kit.told(net, asks + "wait 17;wait 1;");
            due("both come in one minute", x.why(0, 0, 0, 1) * 100 + x.why(0, 0, 1, 1), 1818);
            due("none came before", x.state(0, 0, 3, 20), 0);
            due("sent in minute 9", x.stored(0, 0, 4, 0, 0, 0), 28);
            due("sent in minute 17", x.stored(0, 0, 4, 0, 1, 0), 29);
        }
        AskedNames y = Kit.told(Kit.PAIR, "ask 0 ab;ask 0 a;ask 0 aa;wait 2;");
        due("sent in one minute: the first is away", y.stored(0, 0, 4, 0, 0, 0), 1);
        due("the last sent", y.stored(0, 0, 4, 0, 1, 0), 28);
    }

    private static void minutes() {
        entriesEndByLife();
        entriesEndBehindMinute99();
        entriesEndAheadOfMessages();
        entriesThatEnd();
    }

    private static void entriesEndByLife() {
        Kit.of("Promise 11, entry, by Term 2", "ENDS, LIFE minutes after it was made");
        for (int life : new int[] {1, 2, 3, 20, 98, 99}) {
            String run = "ask 0 a;cut 0 1;" + Kit.waits(life - 1) + "wait 1;";
            int n = Kit.deedsOf(run);
            AskedNames x = Kit.told("nodes 2;life " + life + ";link 0 1 9;route 0 a 1 0;", run);
            Kit.entry(x, n - 1, 0, 0, 1, 0, 0, 1, 1, 2, 0, life);
            due("dead a minute before", x.state(0, 0, n - 1, 30), 0);
            due("measured a minute before", x.state(0, 0, n - 1, 101), NONE);
            due("no more", x.state(0, 0, n, 10), 0);
            due("dead", x.state(0, 0, n, 30), 1);
            due("measured", x.state(0, 0, n, 101), life);
            Kit.ranOut(x, 0, life);
        }
    }

    private static void entriesEndBehindMinute99() {
        Kit.of("Promise 11, entry, by Term 2", "ENDS, LIFE minutes after it was made");
        AskedNames x = Kit.told("nodes 2;life 99;link 0 1 9;route 0 a 1 0;", "wait 1;ask 0 a;cut 0 1;" + Kit.waits(98));
        Kit.entry(x, 8, 0, 0, 1, 0, 0, 1, 1, 2, 1, 100);
        due("minute", x.state(0, 0, 8, 0), 99);
        Kit.nothingYet(x, 1);
        AskedNames y = Kit.told(Kit.PAIR + "life 99;", Kit.waits(99) + "ask 0 a;");
        Kit.entry(y, 6, 0, 0, 1, 0, 0, 1, 1, 2, 99, 198);
    }

    private static void entriesEndAheadOfMessages() {
        Kit.of("Promise 12, why, by Term 2", "in each first ENTRIES that END in it are no more");
        for (int life = 1; life <= 9; life++) {
            String net = "nodes 2;life " + life + ";link 0 1 2;route 0 a 1 0;";
            AskedNames x = Kit.told(net + "serve 1 a 9;", "ask 0 a;wait 9;");
            AskedNames y = Kit.told(net, "ask 0 a;wait 9;");
            if (life <= 4) {
                Kit.ranOut(x, 0, life);
                Kit.ranOut(y, 0, life);
                due("measured", x.state(0, 0, 2, 101), life);
                due("nothing is stored", x.state(0, 0, 2, 20), 0);
            } else {
                Kit.got(x, 0, 4, 1, 0);
                Kit.refused(y, 0, 4, 2, 1, 1);
                due("measured", x.state(0, 0, 2, 101), 4);
                due("stored", x.state(0, 0, 2, 20), 1);
            }
            due("dropped", x.after(0, 0, 4), life <= 4 ? 1 : 0);
            due("a refusal is not dropped", y.after(0, 0, 4), 0);
        }
    }

    private static void entriesThatEnd() {
        Kit.of("Promise 12, why, by Term 2", "their NONCES are DEAD there, MEASURED of OUT is LIFE there, their asks RUN OUT");
        AskedNames x = Kit.told("nodes 3;life 5;link 0 1 9;link 0 2 9;route 0 a 1 0;route 0 b 2 0;",
            "ask 0 a;ask 0 a;fresh 0 a;ask 0 b;ask 0 aa;wait 1;ask 0 a;ask 0 ab;wait 3;wait 1;wait 1;");
        due("none ended", x.state(0, 0, 9, 10), 5);
        due("nor is dead", x.state(0, 0, 9, 30), 0);
        due("those made in minute 0 ended", x.state(0, 0, 10, 10), 1);
        due("dead", x.state(0, 0, 10, 30), 6);
        due("measured of both", x.state(0, 0, 10, 101) * 10 + x.state(0, 0, 10, 102), 55);
        for (int k : new int[] {0, 1, 2, 3, 4, 6}) {
            Kit.ranOut(x, k, 5);
        }
        Kit.ranOut(x, 7, 6);
        due("all of them", x.state(0, 0, 11, 30), 7);
        // Node 0 is a way out like others.
        AskedNames y = Kit.told("nodes 2;life 3;link 0 1 9;route 1 a 0 0;", "ask 1 a;wait 3;");
        due("measured of 0", y.state(0, 0, 2, 110), 3);
        Kit.ranOut(y, 0, 3);
    }

    // ---- Term 2: an interest comes --------------------------------------------------------------

    private static void interests() {
        loopByDeadNonce();
        loopByNonceOfEntry();
        freshUpToThatMinute();
        servedByTheLongest();
        joinedInterest();
        noWay();
    }

    private static void loopByDeadNonce() {
        Kit.of("Promise 21, after, by Term 2", "(1) its NONCE is DEAD at N");
        // At 0 the entry of the first ask ended, the second ask brought the name to its store; then the first one's interest comes round.
        AskedNames x = Kit.told("nodes 4;life 4;link 0 1 3;link 1 2 3;link 2 0 3;link 0 3 1;route 0 a 1 0;route 1 a 2 0;"
            + "route 2 a 0 0;route 0 a 3 3;serve 3 a 50;", "ask 0 a;wait 5;ask 0 a;wait 3;wait 1;ask 0 a;");
        Kit.ranOut(x, 0, 4);
        Kit.got(x, 2, 7, 3, 0);
        due("the store has it", x.stored(0, 0, 4, 0, 0, 0), 1);
        due("on its way, then a NACK", x.state(0, 0, 4, 1) * 10 + x.state(0, 0, 5, 1), 11);
        due("loops", x.after(0, 0, 3), 1);
        due("hits, by the last ask alone", x.after(0, 0, 1), 1);
        due("sent", x.after(0, 0, 0), 6);
    }

    private static void loopByNonceOfEntry() {
        Kit.of("Promise 12, why, by Term 2", "or one of those of the ENTRY of this NAME and WISH: a NACK goes to F: a LOOP at N");
        String ring = "link 0 1 1;link 1 2 1;link 2 0 1;route 0 a 1 0;route 1 a 2 0;route 2 a 0 0;";
        for (String verb : new String[] {"ask", "fresh"}) {
            AskedNames x = Kit.told(ring, verb + " 0 a;wait 2;wait 1;wait 3;");
            due("ahead of the loop", x.state(0, 0, 2, 2), 3);
            Kit.refused(x, 0, 6, 4, 2, 0);
            due("loops", x.after(0, 0, 3), 1);
            due("no other joined", x.after(0, 0, 2), 0);
        }
        // Another wish has an entry of its own, so each nonce goes round by itself.
        AskedNames y = Kit.told(ring, "ask 0 a;fresh 0 a;wait 3;wait 3;");
        Kit.refused(y, 0, 6, 4, 2, 0);
        Kit.refused(y, 1, 6, 4, 2, 0);
        due("loops", y.after(0, 0, 3), 2);
    }

    private static void freshUpToThatMinute() {
        Kit.of("Promise 12, why, by Term 2", "and WISH is 0, or it is FRESH");
        for (int fresh = 0; fresh <= 6; fresh++) {
            String net = "nodes 2;link 0 1 1;route 0 a 1 0;serve 1 a " + fresh + ";";
            for (int minute = 2; minute <= 9; minute++) {
                String ahead = "ask 0 a;wait 2;" + Kit.waits(minute - 2);
                AskedNames x = Kit.told(net, ahead + "fresh 0 a;ask 0 a;");
                int k = Kit.deedsOf(ahead);
                if (minute <= 1 + fresh) {
                    Kit.got(x, k, minute, 0, 1);
                } else {
                    Kit.nothingYet(x, k);
                }
                Kit.got(x, k + 1, minute, 0, 1);
                due("hits", x.after(0, 0, 1), minute <= 1 + fresh ? 2 : 1);
            }
        }
        Kit.of("Promise 12, why, by Term 2", "of ENTRIES of the NAME at N, all of WISH 0, and of 1, if they are FRESH");
        for (int delay = 1; delay <= 9; delay++) {
            for (int fresh = 0; fresh <= 10; fresh++) {
                AskedNames x = Kit.told("nodes 2;life 99;link 0 1 " + delay + ";route 0 a 1 0;serve 1 a " + fresh + ";", "fresh 0 a;wait 18;");
                if (fresh >= delay) {
                    Kit.got(x, 0, 2 * delay, 1, 0);
                } else {
                    Kit.nothingYet(x, 0);
                }
                due("dropped", x.after(0, 0, 4), fresh >= delay ? 0 : 1);
                due("stored", x.state(0, 0, 2, 20), fresh >= delay ? 1 : 0);
                due("measured", x.state(0, 0, 2, 101), fresh >= delay ? 2 * delay : NONE);
            }
        }
    }

    private static void servedByTheLongest() {
        Kit.of("Promise 10, stored, by Term 2", "(3) Else N SERVES a BEGINNING of the NAME, the longest, of several the first");
        String[] names = {"a", "ab", "abc", "abcd", "aa", "aba", "abca"};
        int[] fresh = {10, 20, 30, 40, 10, 20, 30};
        String ahead = "nodes 2;link 0 1 1;route 0 a 1 0;";
        String up = "serve 1 a 10;serve 1 ab 20;serve 1 abc 30;serve 1 abcd 40;";
        String down = "serve 1 abcd 40;serve 1 abc 30;serve 1 ab 20;serve 1 a 10;";
        String behind = "serve 1 a 50;serve 1 ab 60;";
        for (int i = 0; i < names.length; i++) {
            for (String net : new String[] {ahead + up + behind, ahead + down + behind}) {
                AskedNames x = Kit.told(net, "ask 0 " + names[i] + ";wait 2;");
                due("until of " + names[i], x.stored(0, 0, 2, 0, 0, 1), 1 + fresh[i]);
            }
        }
        AskedNames y = Kit.told("nodes 2;serve 1 ab 5;serve 0 a 5;", "ask 1 a;ask 1 b;ask 1 ba;ask 1 ac;ask 1 abcd;ask 0 ab;");
        for (int k = 0; k < 4; k++) {
            Kit.refused(y, k, 0, 1, 1, 1);
        }
        Kit.got(y, 4, 0, 1, 0);
        Kit.got(y, 5, 0, 0, 0);
    }

    private static void joinedInterest() {
        Kit.of("Promise 21, after, by Terms 2 and 5", "JOINED: INTERESTS that (4) took");
        AskedNames x = Kit.told(Kit.PAIR, "ask 0 a;".repeat(39) + "wait 2;");
        due("joined", x.after(0, 0, 2), 38);
        due("sent", x.after(0, 0, 0), 2);
        for (int k = 0; k < 39; k++) {
            Kit.got(x, k, 2, 1, 0);
        }
        due("mean", x.after(0, 0, 7) * 10 + x.after(0, 0, 8), 21);
        AskedNames y = Kit.told(Kit.PAIR, "ask 0 a;fresh 0 a;ask 0 ab;");
        due("of another wish, another name: not", y.after(0, 0, 2), 0);
    }

    private static void noWay() {
        Kit.of("Promise 9, state, by Term 2", "if it can't, it is no more (its NONCE not DEAD), and a NACK goes to F: NO WAY at N");
        AskedNames x = Kit.told("link 0 1 1;route 0 a 1 0;route 1 a 2 0;", "ask 1 a;fresh 2 b;ask 0 a;wait 1;wait 1;");
        Kit.refused(x, 0, 0, 1, 1, 1);
        Kit.refused(x, 1, 0, 1, 1, 2);
        Kit.refused(x, 2, 2, 2, 1, 1);
        for (int n = 1; n <= 5; n++) {
            due("entries at 1", x.state(0, 0, n, 11), 0);
            due("dead at 1", x.state(0, 0, n, 31), 0);
            due("dead at 2", x.state(0, 0, n, 32), 0);
        }
        due("dead at 0, where an entry was", x.state(0, 0, 5, 30), 1);
        due("widest", x.after(0, 0, 6), 1);
    }

    // ---- Term 2: an entry goes on ---------------------------------------------------------------

    private static void goingOn() {
        wayByLeastNode();
        wayByLinksThatAreUp();
        wayByLongestBeginning();
        wayByMeasure();
        wayBackIsNone();
        wayOfTheFirstNonce();
    }

    private static void wayByLeastNode() {
        Kit.of("Promise 11, entry, by Term 2", "is least, of several the least NODE");
        due("all alike", Kit.told(Kit.STAR, "ask 0 a;").entry(0, 0, 1, 0, 0, 4), 1);
        for (int way = 1; way <= 5; way++) {
            // One of them is cheaper by 1, in the last row of all.
            AskedNames x = Kit.told(Kit.STAR + "route 0 a " + way + " 6;", "ask 0 a;");
            due("the cheapest", x.entry(0, 0, 1, 0, 0, 4), way);
        }
        AskedNames y = Kit.told("link 0 1 1;link 0 2 1;route 0 a 1 99;route 0 a 2 98;", "ask 0 a;");
        due("98 of 99", y.entry(0, 0, 1, 0, 0, 4), 2);
        AskedNames z = Kit.told("link 0 1 1;link 0 2 1;route 0 a 2 0;route 0 a 1 1;", "ask 0 a;");
        due("0 of 1", z.entry(0, 0, 1, 0, 0, 4), 2);
    }

    private static void wayByLinksThatAreUp() {
        Kit.of("Promise 11, entry, by Term 2", "those to a NODE to which there is a LINK that is up");
        StringBuilder cuts = new StringBuilder();
        for (int cut = 1; cut <= 4; cut++) {
            cuts.append("cut ").append(cut).append(" 0;");
            AskedNames x = Kit.told(Kit.STAR, cuts + "ask 0 a;");
            due("the least that is up", x.entry(0, 0, cut + 1, 0, 0, 4), cut + 1);
        }
        AskedNames none = Kit.told(Kit.STAR, cuts + "cut 0 5;ask 0 a;mend 0 3;ask 0 a;");
        Kit.refused(none, 5, 0, 1, 1, 0);
        due("the one that was mended", none.entry(0, 0, 8, 0, 0, 4), 3);
        Kit.refused(Kit.told("route 0 a 1 0;", "ask 0 a;"), 0, 0, 1, 1, 0);
        Kit.refused(Kit.told("link 0 1 1;", "ask 0 a;"), 0, 0, 1, 1, 0);
    }

    private static void wayByLongestBeginning() {
        Kit.of("Promise 12, why, by Term 2", "of ROUTES at N for the longest BEGINNING of the NAME for which there are any");
        String net = "nodes 6;link 0 1 1;link 0 2 1;link 0 3 1;link 0 4 1;route 0 a 1 0;route 0 ab 2 9;route 0 abc 3 9;route 0 abcd 4 9;";
        String[] names = {"a", "ab", "abc", "abcd", "aa", "aba", "abca", "abce", "acbd"};
        int[] ways = {1, 2, 3, 4, 1, 2, 3, 3, 1};
        for (int i = 0; i < names.length; i++) {
            due("way of " + names[i], Kit.told(net, "ask 0 " + names[i] + ";").entry(0, 0, 1, 0, 0, 4), ways[i]);
        }
        for (int i = 0; i < 4; i++) {
            // No shorter beginning is taken where the longest one's link is down.
            AskedNames x = Kit.told(net, "cut 0 " + ways[i] + ";ask 0 " + names[i] + ";");
            Kit.refused(x, 1, 0, 1, 1, 0);
        }
        Kit.refused(Kit.told(net, "ask 0 b;"), 0, 0, 1, 1, 0);
        Kit.refused(Kit.told("link 0 1 1;route 0 ab 1 0;", "ask 0 a;"), 0, 0, 1, 1, 0);
        // Nor where it never had a link.
        Kit.refused(Kit.told("link 0 1 1;route 0 a 1 0;route 0 ab 2 0;", "ask 0 ab;"), 0, 0, 1, 1, 0);
    }

    private static void wayByMeasure() {
        Kit.of("Promise 11, entry, by Term 2", "the one of which MEASURED (if it was at N of this NODE), else COST, is least");
        for (int cost = 0; cost <= 4; cost++) {
            // 2 is measured by 2 minutes, whatever its cost is; 1 and 3 have their cost.
            AskedNames x = Kit.told("nodes 4;link 0 1 1;link 0 2 1;link 0 3 1;route 0 b 2 0;route 0 a 1 " + cost + ";route 0 a 2 99;route 0 a 3 "
                + cost + ";serve 2 b 9;", "ask 0 b;wait 2;ask 0 a;");
            due("measured", x.state(0, 0, 2, 102), 2);
            due("way by cost " + cost, x.entry(0, 0, 3, 0, 0, 4), cost <= 2 ? 1 : 2);
        }
        // What was measured last counts, be it more or less.
        AskedNames z = Kit.told("life 50;room 1 1;link 0 1 1;link 1 2 3;route 0 a 1 0;route 1 a 2 0;serve 1 b 9;route 0 b 1 0;serve 2 a 9;",
            "ask 0 b;wait 2;ask 0 a;wait 8;ask 0 bb;wait 2;");
        due("measured", z.state(0, 0, 2, 101), 2);
        due("measured as more", z.state(0, 0, 4, 101), 8);
        due("measured as less", z.state(0, 0, 6, 101), 2);
        // What was measured at another node, or of this one there, does not count.
        AskedNames y = Kit.told("link 0 1 1;link 0 2 1;link 1 2 1;route 1 b 0 0;route 0 a 1 3;route 0 a 2 4;serve 0 b 9;", "ask 1 b;wait 2;ask 0 a;");
        due("measured at 1 of 0", y.state(0, 0, 2, 110), 2);
        due("way by cost", y.entry(0, 0, 3, 0, 0, 4), 1);
    }

    private static void wayBackIsNone() {
        Kit.of("Promise 12, why, by Term 2", "that is not IN, not TRIED");
        AskedNames x = Kit.told("nodes 2;link 0 1 1;route 0 a 1 0;route 1 a 0 0;", "ask 0 a;wait 2;");
        Kit.refused(x, 0, 2, 2, 1, 1);
        due("messages", x.after(0, 0, 0), 2);
    }

    private static void wayOfTheFirstNonce() {
        Kit.of("Promise 21, after, by Term 2", "the INTEREST (of its first NONCE) is sent there");
        // At 2 the second ask comes first; with its nonce the interest that goes round to 0 by the second way is no loop there.
        AskedNames x = Kit.told("nodes 5;life 60;link 0 2 9;link 1 2 1;link 2 3 9;link 2 4 1;link 4 0 1;"
            + "route 0 a 2 0;route 1 a 2 0;route 2 a 3 0;route 2 a 4 5;route 4 a 0 0;", "ask 0 a;ask 1 a;wait 20;wait 1;");
        due("no loop", x.after(0, 0, 3), 0);
        due("joined", x.after(0, 0, 2), 2);
        due("in at 0", x.entry(0, 0, 4, 0, 0, 2), 16);
    }

    // ---- Term 2: data and a nack come -----------------------------------------------------------

    private static void data() {
        dataForNoEntry();
        dataMeasureTheFirst();
        dataGoToAllThatAreIn();
        dataForAllEntriesOfTheName();
        dataByEntriesAsMade();
        dataByTheirOwnFreshness();
        dataGoBackToWhereTheyCameFrom();
        dataWithoutRoom();
    }

    private static void dataForNoEntry() {
        Kit.of("Promise 9, state, by Term 2", "if there are none, no more happens");
        // The entry at 1 ran out, that at 0 still stands: nothing is sent on to it.
        AskedNames y = Kit.told("life 6;link 0 1 1;link 1 2 4;route 1 a 2 0;route 0 a 1 0;serve 2 a 9;", "ask 1 a;wait 3;ask 0 a;wait 2;wait 1;wait 2;wait 1;");
        due("on its way", y.state(0, 0, 4, 1), 1);
        due("the entry at 0 stands", y.state(0, 0, 6, 10), 1);
        due("none at 1", y.state(0, 0, 6, 11), 0);
        due("nothing was sent on", y.state(0, 0, 6, 1), 0);
        due("nothing is stored at 1", y.state(0, 0, 6, 21), 0);
        due("measured is life", y.state(0, 0, 6, 112), 6);
        Kit.ranOut(y, 0, 6);
        Kit.ranOut(y, 2, 9);
        Kit.of("Promise 21, after, by Terms 2 and 5", "DROPPED: DATA that came over a LINK for no ENTRY");
        AskedNames x = Kit.told("nodes 2;life 3;link 0 1 2;route 0 a 1 0;serve 1 a 9;", "ask 0 a;wait 3;ask 0 ab;wait 1;");
        due("dropped", x.after(0, 0, 4), 1);
        due("not stored", x.state(0, 0, 4, 20), 0);
        due("not measured", x.state(0, 0, 4, 101), 3);
        due("the entry of another name stands", x.state(0, 0, 4, 10), 1);
        due("none is dropped by an ask itself", Kit.told(Kit.PAIR, "ask 1 a;").after(0, 0, 4), 0);
    }

    private static void dataMeasureTheFirst() {
        Kit.of("Promise 9, state, by Term 2", "if OUT of the first of these is X, MEASURED at N of X is now less its SENT");
        String net = "life 50;link 0 1 9;link 0 2 1;route 0 a 1 0;route 0 a 2 5;serve 1 a 9;serve 2 a ";
        // The first entry went out to 1, the second one to 2, from where data come.
        AskedNames x = Kit.told(net + "9;", "ask 0 a;cut 0 1;fresh 0 a;wait 2;");
        due("the first one's way is another", x.state(0, 0, 4, 102), NONE);
        due("both are no more", x.state(0, 0, 4, 10), 0);
        AskedNames y = Kit.told(net + "9;", "fresh 0 a;cut 0 1;ask 0 a;wait 2;");
        due("the first one's way is another", y.state(0, 0, 4, 102), NONE);
        due("both are no more", y.state(0, 0, 4, 10), 0);
        AskedNames z = Kit.told(net + "0;", "fresh 0 a;cut 0 1;wait 3;ask 0 a;wait 2;");
        due("stale data are for the second alone", z.state(0, 0, 5, 102), 2);
        due("the first one stands", z.state(0, 0, 5, 10), 1);
        due("its wish", z.entry(0, 0, 5, 0, 0, 1), 1);
    }

    private static void dataGoToAllThatAreIn() {
        Kit.of("Promise 12, why, by Term 2", "DATA are sent to NODES IN, rising, its asks GET them, its NONCES are DEAD at N, it is no more");
        AskedNames x = Kit.told("nodes 6;link 0 4 1;link 1 4 2;link 2 4 3;link 3 4 4;link 4 5 5;route 0 a 4 0;route 1 a 4 0;route 2 a 4 0;"
            + "route 3 a 4 0;route 4 a 5 0;serve 5 a 9;", "ask 0 a;ask 1 a;ask 2 a;ask 3 a;ask 4 a;wait 10;wait 4;");
        due("the ask at 4 was first", x.why(0, 0, 4, 1), 10);
        due("four were sent on", x.state(0, 0, 6, 1), 4);
        due("dead at 4", x.state(0, 0, 6, 34), 5);
        due("no more", x.state(0, 0, 6, 14), 0);
        for (int node = 0; node < 4; node++) {
            Kit.got(x, node, 11 + node, 5, 0);
        }
        due("sent", x.after(0, 0, 0), 10);
        due("joined", x.after(0, 0, 2), 4);
    }

    private static void dataForAllEntriesOfTheName() {
        Kit.of("Promise 12, why, by Term 2", "then of each ENTRY, as made");
        // Entries of other names stand ahead of them, between them and behind them; the first data are for both.
        String net = "life 50;link 0 1 2;link 0 2 9;route 0 a 1 0;route 0 b 2 0;serve 1 a 9;";
        for (String[] verbs : new String[][] {{"ask", "fresh"}, {"fresh", "ask"}}) {
            AskedNames x = Kit.told(net, "ask 0 b;" + verbs[0] + " 0 a;ask 0 ba;wait 1;" + verbs[1] + " 0 a;ask 0 bb;wait 3;wait 1;");
            Kit.got(x, 1, 4, 1, 0);
            Kit.got(x, 4, 4, 1, 0);
            due("what came for the second is dropped", x.after(0, 0, 4), 1);
            int[] names = {2, Kit.name("ba"), Kit.name("bb")};
            for (int i = 0; i < 3; i++) {
                due("those of other names stand, as made", x.entry(0, 0, 7, 0, i, 0), names[i]);
            }
            due("no others", x.state(0, 0, 7, 10), 3);
            due("dead", x.state(0, 0, 7, 30), 2);
        }
    }

    /** Two entries at 3, one for each wish, have 1 and 2 in them, which bring the data to 0 in one minute. */
    private static void dataByEntriesAsMade() {
        Kit.of("Promise 9, state, by Term 2", "then of each ENTRY, as made: DATA are sent to NODES IN");
        String net = "nodes 5;life 50;link 0 1 1;link 0 2 1;link 1 3 1;link 2 3 1;link 3 4 1;route 0 a 1 0;route 0 a 2 0;"
            + "route 1 a 3 0;route 2 a 3 0;route 3 a 4 0;serve 4 a 9;";
        for (String[] verbs : new String[][] {{"ask", "fresh"}, {"fresh", "ask"}}) {
            for (int first = 1; first <= 2; first++) {
                int second = 3 - first;
                AskedNames x = Kit.told(net, "cut 0 " + second + ";" + verbs[0] + " 0 a;mend 0 " + second + ";cut 0 " + first + ";"
                    + verbs[1] + " 0 a;mend 0 " + first + ";wait 3;wait 1;wait 2;");
                due("the first entry at 3 has in it", x.entry(0, 0, 7, 3, 0, 2), 1 << first);
                due("the second one", x.entry(0, 0, 7, 3, 1, 2), 1 << second);
                due("one answer is for both", x.state(0, 0, 8, 13), 0);
                // Where the second one's data were ahead, nothing would be measured: they are not from OUT of the first entry at 0.
                due("measured by the first one's data", x.state(0, 0, 9, 100 + first), 6);
                due("not by the second one's", x.state(0, 0, 9, 100 + second), NONE);
                due("dropped at 3 and at 0", x.after(0, 0, 4), 2);
                Kit.got(x, 1, 6, 4, 0);
                Kit.got(x, 4, 6, 4, 0);
            }
        }
    }

    /** Other data, stale or fresh the other way round, were sent last and come in the same minute. */
    private static void dataByTheirOwnFreshness() {
        Kit.of("Promise 12, why, by Term 2", "all of WISH 0, and of 1, if they are FRESH: if there are none, no more happens");
        String net = "life 50;link 0 1 3;link 0 2 3;route 0 a 1 0;route 0 b 2 0;serve 1 a ";
        AskedNames x = Kit.told(net + "0;serve 2 b 50;", "fresh 0 a;ask 0 b;wait 6;");
        Kit.nothingYet(x, 0);
        Kit.got(x, 1, 6, 2, 0);
        due("stale data are dropped", x.after(0, 0, 4), 1);
        AskedNames y = Kit.told(net + "50;serve 2 b 0;", "fresh 0 a;ask 0 b;wait 6;");
        Kit.got(y, 0, 6, 1, 0);
        Kit.got(y, 1, 6, 2, 0);
        due("fresh until", y.stored(0, 0, 3, 0, 0, 1), 53);
        due("fresh until", y.stored(0, 0, 3, 0, 1, 1), 3);
    }

    private static void dataGoBackToWhereTheyCameFrom() {
        Kit.of("Promise 21, after, by Term 2", "DATA are sent to NODES IN");
        // At 0 an entry for any went out to 1, another one for fresh ones alone has 1 in it: one answer from 1 is for both.
        AskedNames x = Kit.told("nodes 4;life 30;link 0 1 1;link 1 2 5;link 0 3 9;route 0 a 1 0;route 0 a 3 1;route 1 a 2 0;route 1 a 0 1;serve 2 a 50;",
            "ask 0 a;wait 1;cut 1 2;fresh 1 a;mend 1 2;wait 1;wait 9;wait 1;wait 1;wait 7;");
        Kit.entry(x, 6, 0, 0, 1, 0, 0, 1, 1, 2, 0, 30);
        Kit.entry(x, 6, 0, 1, 1, 1, 2, 0, 3, 8, 2, 32);
        Kit.got(x, 3, 11, 2, 0);
        Kit.got(x, 0, 12, 2, 0);
        due("none dropped before", x.state(0, 0, 8, 1), 2);
        due("dropped at 1, from where they had come", x.after(0, 0, 4), 1);
        due("sent", x.after(0, 0, 0), 8);
        due("no entries", x.state(0, 0, 10, 2), 0);
    }

    private static void dataWithoutRoom() {
        Kit.of("Promise 10, stored, by Term 2", "DATA are in N's STORE, used last (in place of what it had of the NAME), if there is ROOM");
        AskedNames x = Kit.told("room 1 0;link 0 1 1;link 1 2 1;route 0 a 1 0;route 1 a 2 0;serve 2 a 9;", "ask 0 a;wait 4;ask 1 a;wait 2;");
        Kit.got(x, 0, 4, 2, 0);
        Kit.got(x, 2, 6, 2, 0);
        due("nothing at 1", x.state(0, 0, 4, 21), 0);
        due("stored at 0", x.state(0, 0, 4, 20), 1);
        due("hits", x.after(0, 0, 1), 0);
    }

    private static void nacks() {
        nackForTheWayOut();
        nackByItsOwnWish();
        nackGoesBackToWhereItCameFrom();
        nackToAllThatAreIn();
        answersInRisingRow();
    }

    /** An entry at 3 has 0 and 1 in it, both for an entry at 2, to which their answers come in one minute. */
    private static void answersInRisingRow() {
        Kit.of("Promise 9, state, by Term 2", "DATA are sent to NODES IN, rising");
        // The first ask's data come from 5 when it ran out, and end the second one's entry; the third goes out to 1.
        String net = "nodes 6;life 15;room 2 0;link 2 5 9;link 2 0 1;link 2 1 1;link 0 3 1;link 1 3 1;link 3 4 3;"
            + "route 2 a 5 0;route 2 a 0 1;route 2 a 1 2;route 0 a 3 0;route 1 a 3 0;route 3 a 4 0;serve 5 a 9;";
        String run = "ask 2 a;wait 15;ask 2 a;wait 3;cut 0 2;ask 2 a;mend 0 2;wait 2;wait 4;wait 1;";
        AskedNames x = Kit.told(net + "serve 4 a 9;", run);
        Kit.ranOut(x, 0, 15);
        Kit.got(x, 2, 18, 5, 0);
        due("both are in", x.entry(0, 0, 8, 3, 0, 2), 3);
        due("out of the third", x.entry(0, 0, 9, 2, 0, 4), 1);
        Kit.got(x, 5, 25, 4, 0);
        due("data of 0 came first", x.state(0, 0, 10, 121), NONE);
        due("those of 1 were dropped", x.after(0, 0, 4), 1);
        Kit.of("Promise 11, entry, by Term 2", "a NACK is sent to NODES IN, rising");
        AskedNames y = Kit.told(net, run);
        due("both are in", y.entry(0, 0, 8, 3, 0, 2), 3);
        Kit.entry(y, 10, 2, 0, 1, 0, 0, 1, 0, 3, 25, 33);
    }

    private static void nackToAllThatAreIn() {
        Kit.of("Promise 12, why, by Term 2", "if it can't, a NACK is sent to NODES IN, rising, its asks are REFUSED, its NONCES are DEAD, it is no more");
        AskedNames x = Kit.told("nodes 6;link 0 4 1;link 1 4 2;link 2 4 3;link 3 4 4;link 4 5 5;route 0 a 4 0;route 1 a 4 0;route 2 a 4 0;"
            + "route 3 a 4 0;route 4 a 5 0;", "ask 0 a;ask 1 a;ask 2 a;ask 3 a;ask 4 a;ask 4 a;wait 9;wait 1;wait 4;");
        due("it stands", x.state(0, 0, 7, 14), 1);
        due("none is dead", x.state(0, 0, 7, 34), 0);
        due("no more", x.state(0, 0, 8, 14), 0);
        due("dead at 4", x.state(0, 0, 8, 34), 6);
        due("four were sent on", x.state(0, 0, 8, 1), 4);
        Kit.refused(x, 4, 10, 2, 1, 5);
        Kit.refused(x, 5, 10, 2, 1, 5);
        for (int node = 0; node < 4; node++) {
            Kit.refused(x, node, 11 + node, 3, 1, 5);
            due("dead at " + node, x.state(0, 0, 9, 30 + node), 1);
        }
        due("nothing is measured", x.state(0, 0, 9, 145), NONE);
        due("nothing is stored", x.state(0, 0, 9, 24), 0);
    }

    /** Another wish was refused last. */
    private static void nackByItsOwnWish() {
        Kit.of("Promise 12, why, by Term 2", "if there is an ENTRY of the NAME and WISH, OUT of which is X: it goes ON");
        for (String run : new String[] {"fresh 0 a;ask 0 b;wait 2;", "ask 0 a;fresh 0 b;wait 2;", "ask 0 a;fresh 0 a;wait 2;"}) {
            AskedNames x = Kit.told("link 0 1 1;route 0 a 1 0;route 0 b 1 0;", run);
            Kit.refused(x, 0, 2, 2, 1, 1);
            Kit.refused(x, 1, 2, 2, 1, 1);
        }
    }

    private static void nackGoesBackToWhereItCameFrom() {
        Kit.of("Promise 21, after, by Term 2", "a NACK is sent to NODES IN");
        // The second ask at 1 and the ask at 0 go out to one another and join; a late nack for the first ask at 1 sends the second on to 3.
        AskedNames x = Kit.told("nodes 4;life 50;room 1 0;link 0 1 4;link 1 2 1;link 1 3 1;route 1 a 0 0;route 1 a 2 5;route 1 a 3 6;route 0 a 1 0;serve 2 a 50;",
            "ask 1 a;cut 0 1;fresh 1 a;mend 0 1;wait 2;cut 1 2;ask 1 a;wait 2;ask 0 a;wait 2;wait 2;wait 2;wait 4;wait 4;");
        Kit.got(x, 0, 2, 2, 0);
        Kit.got(x, 2, 2, 2, 0);
        Kit.entry(x, 10, 0, 0, 1, 0, 2, 1, 1, 2, 4, 54);
        Kit.entry(x, 11, 1, 0, 1, 0, 1, 1, 3, 9, 8, 52);
        Kit.refused(x, 6, 10, 2, 1, 3);
        Kit.refused(x, 8, 14, 3, 1, 3);
        due("on its way to 1, from where it had come", x.state(0, 0, 13, 1), 1);
        due("sent", x.after(0, 0, 0), 10);
        due("joined", x.after(0, 0, 2), 2);
        due("nothing is left", x.state(0, 0, 14, 1) + x.state(0, 0, 14, 2), 0);
    }

    private static void nackForTheWayOut() {
        Kit.of("Promise 12, why, by Term 2", "if there is an ENTRY of the NAME and WISH, OUT of which is X: it goes ON");
        // At 1 the store has what is no longer fresh: data for any, a nack for fresh ones alone.
        AskedNames x = Kit.told("link 0 1 1;link 1 2 1;route 0 a 1 0;route 1 a 2 0;serve 2 a 0;", "ask 1 a;wait 2;cut 1 2;fresh 0 a;ask 0 a;wait 2;");
        Kit.refused(x, 3, 4, 2, 1, 1);
        Kit.got(x, 4, 4, 1, 1);
        // From a node that is not OUT, and for an entry that is no more.
        AskedNames y = Kit.told("life 4;link 0 1 3;link 0 2 9;route 0 a 1 0;route 0 a 2 2;", "ask 0 a;wait 4;ask 0 a;wait 2;wait 2;");
        due("it stands", y.state(0, 0, 4, 10), 1);
        Kit.ranOut(y, 2, 8);
        AskedNames z = Kit.told("nodes 2;life 4;link 0 1 3;route 0 a 1 0;", "ask 0 a;wait 4;wait 2;");
        Kit.ranOut(z, 0, 4);
        due("nothing more", z.after(0, 0, 0), 2);
    }
}
