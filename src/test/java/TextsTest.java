/** Promises 1 to 7, 18, 23 to 25: the tape, texts and their faults, what is told, images. */
public final class TextsTest {

    private static final int NONE = AskedNames.NONE;

    public static void main(String[] args) {
        newObject();
        tape();
        textsAndPlaces();
        faultsOfGrammar();
        faultsOfNets();
        faultsOfRuns();
        faultsOfLogs();
        whichFaultIsFirst();
        nets();
        laterOnesStrike();
        deeds();
        facts();
        images();
        readme();
        Kit.finish();
    }

    private static void due(String call, int got, int want) {
        Kit.due(call, got, want);
    }

    private static void newObject() {
        AskedNames x = new AskedNames();
        due("NONE", NONE, -1);
        for (int sort = 0; sort < 3; sort++) {
            due("count of a new one", x.count(sort), 0);
        }
        due("count(-1)", x.count(-1), -2);
        due("count(3)", x.count(3), -2);
        due("fault(0) of a new one", x.fault(0), 0);
        due("fault(1) of a new one", x.fault(1), NONE);
        for (int k = -1; k < 4; k++) {
            Kit.due("again without an image", x.again(k), false);
        }
        due("end(0) of a new one", x.end(0), 0);
        due("end(1) of a new one", x.end(1), NONE);
        due("net of a new one", x.net(0, 0), -2);
        due("deed of a new one", x.deed(0, NONE, 0), -2);
        due("stop of a new one", x.stop(0, 0), NONE);
        due("fact of a new one", x.fact(0, NONE, 0), -2);
    }

    private static void tape() {
        AskedNames x = new AskedNames();
        for (int i = 1; i <= 30; i++) {
            due("feed " + i, x.feed(0x20202020, 0x20202020, 0x20202020, 0x20202020, 0x20202020), 20 * i);
        }
        due("feed beyond 600", x.feed(1, 2, 3, 4, 5), NONE);
        due("end(600)", x.end(600), 600);
        due("end(601)", x.end(601), NONE);
        due("end(-1)", x.end(-1), NONE);
        due("end(581)", x.end(581), 581);
        due("feed that would make 601", x.feed(1, 2, 3, 4, 5), NONE);
        due("end(580)", x.end(580), 580);
        due("feed that makes 600", x.feed(0x20202020, 0x20202020, 0x20202020, 0x20202020, 0x20202020), 600);
        due("a text of 600 blanks", x.text(0, NONE), 0);
        due("the tape is empty behind it", x.end(1), NONE);
        // Of each number the highest byte comes first: "wait", " 12;", "ask ", "0 zz", "\n; x".
        x.feed(0x77616974, 0x2031323b, 0x61736b20, 0x30207a7a, 0x0a3b2078);
        due("end(18)", x.end(18), 18);
        due("text", x.text(1, NONE), 0);
        due("minutes", x.deed(0, 0, 1), 12);
        due("name", x.deed(0, 1, 2), 26 * 27 + 26);
        // Bytes of 128 and more are no tokens.
        x.feed(0x80ff2020, 0, 0, 0, 0);
        due("text with a high byte", x.text(1, NONE), NONE);
        due("its place", x.fault(1), 0);
    }

    /** Where there is no place for a text, the tape is empty behind it all the same, and no FAULT is told. */
    private static void refused(AskedNames x, String why, int sort, int at) {
        int[] have = {x.count(0), x.count(1), x.count(2)};
        Kit.write(x, "bad");
        due(why, x.text(sort, at), -2);
        due("FAULT 0 behind -2", x.fault(0), 0);
        due("no place behind -2", x.fault(1), NONE);
        due("the tape is empty behind -2", x.end(1), NONE);
        due("the tape goes on from its beginning", x.feed(0, 0, 0, 0, 0), 20);
        due("an empty tape", x.end(0), 0);
        for (int s = 0; s < have.length; s++) {
            due("nothing is told behind -2", x.count(s), have[s]);
        }
    }

    private static void textsAndPlaces() {
        AskedNames x = new AskedNames();
        due("a first net", Kit.tell(x, 0, "nodes 1;"), 0);
        due("a second net", Kit.tell(x, 0, "nodes 2;"), 1);
        Kit.write(x, "bad");
        due("fault", x.text(1, NONE), NONE);
        due("fault(0)", x.fault(0), 1);
        refused(x, "a third net", 0, NONE);
        refused(x, "no such net", 0, 2);
        refused(x, "no such net", 0, -2);
        refused(x, "no such sort", 3, NONE);
        refused(x, "no such sort", -1, NONE);
        refused(x, "no such run", 1, 0);
        Kit.write(x, "nodes 6;");
        due("in the place of the first", x.text(0, 0), 0);
        due("its nodes", x.net(0, 0), 6);
        due("nodes of the other one", x.net(1, 0), 2);
        due("the tape is empty", x.end(1), NONE);
        Kit.write(x, "nodes 7;");
        due("a fault in the place of one", x.text(0, 1), NONE);
        due("which is as it was", x.net(1, 0), 2);
        due("the tape is empty", x.end(1), NONE);
        due("fault(0)", x.fault(0), 2);
        due("fault(1)", x.fault(1), 6);
        due("fault(2)", x.fault(2), NONE);
        due("fault(-1)", x.fault(-1), NONE);
        due("an empty run", x.text(1, NONE), 0);
        due("FAULT 0 behind it", x.fault(0), 0);
        due("a second run", x.text(1, NONE), 1);
        due("a third run", x.text(1, NONE), -2);
        due("a log", x.text(2, NONE), 0);
        due("a second log", x.text(2, NONE), 1);
        due("a third log", x.text(2, NONE), -2);
        due("a log again", x.text(2, 1), 1);
        for (int sort = 0; sort < 3; sort++) {
            due("count", x.count(sort), 2);
        }
    }

    private static void faultsOfGrammar() {
        Kit.fault(0, "", 0, 0);
        Kit.fault(0, " \n ", 0, 0);
        Kit.fault(0, "nodes3;life\n7;", 0, 0);
        Kit.fault(0, "route0ab1 5;", 0, 0);
        Kit.fault(0, "nodes 03;", 0, 0);
        Kit.fault(0, "nodes 003;", 1, 6);
        Kit.fault(0, "nodes 123456;", 1, 6);
        Kit.fault(0, "nodes 3", 1, 7);
        Kit.fault(0, "nodes 3  ", 1, 9);
        Kit.fault(0, "nodes", 1, 5);
        Kit.fault(0, "nodes ;", 1, 6);
        Kit.fault(0, "nodes 1 2;", 1, 8);
        Kit.fault(0, "nodes a;", 1, 6);
        Kit.fault(0, "node 1;", 1, 0);
        Kit.fault(0, "nodess 1;", 1, 0);
        Kit.fault(0, "noDes 1;", 1, 0);
        Kit.fault(0, ";", 1, 0);
        Kit.fault(0, "nodes 3;;", 1, 8);
        Kit.fault(0, "3;", 1, 0);
        Kit.fault(0, "nodes 3;\tlife 2;", 1, 8);
        Kit.fault(0, "nodes 3;life -2;", 1, 13);
        Kit.fault(0, "wait 1;", 1, 0);
        Kit.fault(0, "route 0 1 1 1;", 1, 8);
        Kit.fault(0, "route 0 route 1 1;", 2, 8);
        Kit.fault(0, "route 0 link 1 1;", 0, 0);
        Kit.fault(0, "link 0 1;", 1, 8);
        Kit.fault(0, "room 0;", 1, 6);
        Kit.fault(0, "serve 0 a 1 1;", 1, 12);
        Kit.fault(1, "nodes 1;", 1, 0);
        Kit.fault(1, "ask 0;", 1, 5);
        Kit.fault(1, "ask a 0;", 1, 4);
        Kit.fault(1, "wait 1 1;", 1, 7);
        Kit.fault(1, "cut 1;", 1, 5);
        Kit.fault(1, "mend a;", 1, 5);
        Kit.fault(1, "got 1 1;", 1, 0);
        Kit.fault(2, "got 1;", 1, 5);
        Kit.fault(2, "lost 1 1;", 1, 7);
        Kit.fault(2, "ask 0 a;", 1, 0);
    }

    private static void faultsOfNets() {
        Kit.fault(0, "nodes 0;", 2, 6);
        Kit.fault(0, "nodes 6;", 0, 0);
        Kit.fault(0, "nodes 7;", 2, 6);
        Kit.fault(0, "life 0;", 2, 5);
        Kit.fault(0, "life 99;", 0, 0);
        Kit.fault(0, "room 6 1;", 2, 5);
        Kit.fault(0, "room 0 4;", 0, 0);
        Kit.fault(0, "room 0 5;", 2, 7);
        Kit.fault(0, "link 6 0 1;", 2, 5);
        Kit.fault(0, "link 0 6 1;", 2, 7);
        Kit.fault(0, "link 0 0 1;", 2, 7);
        Kit.fault(0, "link 0 1 0;", 2, 9);
        Kit.fault(0, "link 0 1 9;", 0, 0);
        Kit.fault(0, "link 0 1 10;", 2, 9);
        Kit.fault(0, "route 6 a 0 0;", 2, 6);
        Kit.fault(0, "route 0 abcd 1 0;", 0, 0);
        Kit.fault(0, "route 0 abcde 1 0;", 2, 8);
        Kit.fault(0, "route 0 a 0 0;", 2, 10);
        Kit.fault(0, "route 0 a 6 0;", 2, 10);
        Kit.fault(0, "route 0 a 1 99;", 0, 0);
        Kit.fault(0, "serve 6 a 0;", 2, 6);
        Kit.fault(0, "serve 0 zzzzz 0;", 2, 8);
        Kit.fault(0, "serve 0 zzzz 99;", 0, 0);
        Kit.fault(0, "route 0 a 1 0;".repeat(12), 0, 0);
        Kit.fault(0, "route 0 a 1 0;".repeat(13), 3, 12 * 14);
        Kit.fault(0, "serve 0 a 1;".repeat(6), 0, 0);
        Kit.fault(0, "serve 0 a 1;".repeat(7), 3, 6 * 12);
        Kit.fault(0, "room 0 1;".repeat(40), 0, 0);
        Kit.fault(0, "room 3 1;", 4, 9);
        Kit.fault(0, "link 0 3 1; ", 4, 12);
        Kit.fault(0, "link 3 0 1;", 4, 11);
        Kit.fault(0, "route 3 a 0 0;", 4, 14);
        Kit.fault(0, "route 0 a 3 0;", 4, 14);
        Kit.fault(0, "serve 3 a 1;", 4, 12);
        Kit.fault(0, "room 5 1;nodes 6;", 0, 0);
        Kit.fault(0, "nodes 6;room 5 1;nodes 5;", 4, 25);
        Kit.fault(0, "nodes 1;nodes 6;link 4 5 1;", 0, 0);
    }

    private static void faultsOfRuns() {
        Kit.fault(1, "ask 5 a;", 0, 0);
        Kit.fault(1, "ask 6 a;", 2, 4);
        Kit.fault(1, "ask 0 abcde;", 2, 6);
        Kit.fault(1, "fresh 6 a;", 2, 6);
        Kit.fault(1, "fresh 0 abcde;", 2, 8);
        Kit.fault(1, "wait 0;", 2, 5);
        Kit.fault(1, "wait 20;", 0, 0);
        Kit.fault(1, "wait 21;", 2, 5);
        Kit.fault(1, "cut 1 1;", 2, 6);
        Kit.fault(1, "cut 0 6;", 2, 6);
        Kit.fault(1, "cut 6 0;", 2, 4);
        Kit.fault(1, "mend 5 5;", 2, 7);
        Kit.fault(1, "mend 5 4;", 0, 0);
        Kit.fault(1, "wait 1;".repeat(40), 0, 0);
        Kit.fault(1, "wait 1;".repeat(41), 3, 280);
    }

    private static void faultsOfLogs() {
        Kit.fault(2, "got 39 99;", 0, 0);
        Kit.fault(2, "got 40 0;", 2, 4);
        Kit.fault(2, "lost 39;", 0, 0);
        Kit.fault(2, "lost 40;", 2, 5);
        Kit.fault(2, "lost 0;".repeat(8), 0, 0);
        Kit.fault(2, "lost 0;".repeat(9), 3, 56);
        Kit.fault(2, "got 0 1;lost 0;".repeat(4), 0, 0);
        Kit.fault(2, "got 0 1;lost 0;".repeat(4) + "got 1 1;", 3, 60);
    }

    private static void whichFaultIsFirst() {
        // Grammar goes ahead of all, wherever it is.
        Kit.fault(0, "nodes 7;x", 1, 8);
        Kit.fault(0, "serve 0 a 1;".repeat(7) + "nodes", 1, 89);
        Kit.fault(0, "link 0 3 1;nodes", 1, 16);
        // Of 2 and 3 the first by place.
        Kit.fault(0, "life 0;" + "serve 0 a 1;".repeat(7), 2, 5);
        Kit.fault(0, "serve 0 a 1;".repeat(7) + "life 0;", 3, 72);
        Kit.fault(0, "serve 0 a 1;".repeat(6) + "serve 9 a 1;", 3, 72);
        Kit.fault(0, "link 9 9 0;", 2, 5);
        Kit.fault(0, "life 0;nodes 9;", 2, 5);
        // A line with a fault is told all the same, but its fault is ahead of the one too many.
        Kit.fault(1, "wait 0;" + "wait 1;".repeat(40), 2, 5);
        // 4 comes behind the others.
        Kit.fault(0, "link 0 5 1;life 0;", 2, 16);
        Kit.fault(0, "link 0 5 1;" + "serve 0 a 1;".repeat(7), 3, 83);
    }

    private static void nets() {
        AskedNames x = new AskedNames();
        Kit.tell(x, 0, "nodes 4;link 3 1 7;link 0 1 2;route 0 ab 1 5;route 2 zzzz 3 99;serve 2 a 5;serve 3 abc 50;room 1 4;life 33;");
        int[][] due = {{0, 4}, {1, 33}, {2, 2}, {3, 2}, {4, 2}, {5, -2}, {9, -2}, {-1, -2}, {10, 2}, {11, 4}, {13, 2},
            {14, -2}, {19, -2}, {20, -2}, {99, -2}, {100, NONE}, {101, 2}, {110, 2}, {113, 7}, {131, 7}, {102, NONE},
            {133, NONE}, {104, -2}, {140, -2}, {109, -2}, {199, -2}, {200, 0}, {201, 2}, {202, -2}, {219, -2},
            {220, 29}, {221, 531440}, {222, -2}, {240, 1}, {241, 3}, {242, -2}, {260, 5}, {261, 99}, {262, -2},
            {280, -2}, {300, 2}, {301, 3}, {302, -2}, {320, 1}, {321, 27 * 27 + 2 * 27 + 3}, {322, -2}, {340, 5},
            {341, 50}, {342, -2}, {360, -2}, {Integer.MAX_VALUE, -2}, {Integer.MIN_VALUE, -2}};
        for (int[] d : due) {
            due("net(0, " + d[0] + ")", x.net(0, d[0]), d[1]);
        }
        due("net(1, 0)", x.net(1, 0), -2);
        due("net(-1, 0)", x.net(-1, 0), -2);
        AskedNames y = new AskedNames();
        Kit.tell(y, 0, "");
        int[][] first = {{0, 3}, {1, 20}, {2, 0}, {3, 0}, {4, 0}, {10, 2}, {11, 2}, {12, 2}, {13, -2}, {101, NONE}, {200, -2}, {300, -2}};
        for (int[] d : first) {
            due("net(0, " + d[0] + ") at first", y.net(0, d[0]), d[1]);
        }
    }

    private static void laterOnesStrike() {
        AskedNames x = new AskedNames();
        Kit.tell(x, 0, "nodes 2;life 9;room 0 1;link 0 1 1;link 1 2 4;nodes 5;life 8;room 0 3;room 1 0;link 1 0 6;"
            + "route 0 a 1 1;route 0 a 1 1;serve 0 a 1;serve 0 a 1;");
        due("nodes", x.net(0, 0), 5);
        due("life", x.net(0, 1), 8);
        due("room", x.net(0, 10), 3);
        due("room", x.net(0, 11), 0);
        due("links", x.net(0, 2), 2);
        due("delay", x.net(0, 101), 6);
        due("delay", x.net(0, 110), 6);
        due("routes", x.net(0, 3), 2);
        due("serves", x.net(0, 4), 2);
        // Nothing of the former text stays in its place.
        Kit.write(x, "link 1 2 1;");
        x.text(0, 0);
        due("nodes", x.net(0, 0), 3);
        due("life", x.net(0, 1), 20);
        due("room", x.net(0, 10), 2);
        due("delay", x.net(0, 101), NONE);
        due("links", x.net(0, 2), 1);
        due("routes", x.net(0, 3), 0);
        due("route", x.net(0, 200), -2);
    }

    private static void deeds() {
        AskedNames x = new AskedNames();
        Kit.tell(x, 1, "ask 1 ab;fresh 5 zzzz;wait 20;cut 3 0;mend 0 3;");
        int[][] due = {{0, 1, 29}, {1, 5, 531440}, {2, 20, NONE}, {3, 3, 0}, {4, 0, 3}};
        due("deeds", x.deed(0, NONE, 0), 5);
        due("deeds", x.deed(0, NONE, 1), -2);
        for (int k = 0; k < 5; k++) {
            for (int what = 0; what < 3; what++) {
                due("deed(0, " + k + ", " + what + ")", x.deed(0, k, what), due[k][what]);
            }
            due("deed(0, k, 3)", x.deed(0, k, 3), -2);
            due("deed(0, k, -1)", x.deed(0, k, -1), -2);
        }
        due("deed(0, 5, 0)", x.deed(0, 5, 0), -2);
        due("deed(0, -2, 0)", x.deed(0, -2, 0), -2);
        due("deed(1, 0, 0)", x.deed(1, 0, 0), -2);
        due("deed(1, NONE, 0)", x.deed(1, NONE, 0), -2);
        due("deed(-1, 0, 0)", x.deed(-1, 0, 0), -2);
    }

    private static void facts() {
        AskedNames x = new AskedNames();
        Kit.tell(x, 2, "got 39 99;lost 7;got 0 0;");
        int[][] due = {{39, 99}, {7, NONE}, {0, 0}};
        due("facts", x.fact(0, NONE, 0), 3);
        due("facts", x.fact(0, NONE, 1), -2);
        for (int k = 0; k < 3; k++) {
            due("fact(0, k, 0)", x.fact(0, k, 0), due[k][0]);
            due("fact(0, k, 1)", x.fact(0, k, 1), due[k][1]);
            due("fact(0, k, 2)", x.fact(0, k, 2), -2);
            due("fact(0, k, -1)", x.fact(0, k, -1), -2);
        }
        due("fact(0, 3, 0)", x.fact(0, 3, 0), -2);
        due("fact(0, -2, 0)", x.fact(0, -2, 0), -2);
        due("fact(1, 0, 0)", x.fact(1, 0, 0), -2);
        due("fact(-1, 0, 0)", x.fact(-1, 0, 0), -2);
    }

    private static void images() {
        AskedNames x = new AskedNames();
        Kit.due("image(-1)", x.image(-1), false);
        Kit.due("image(3)", x.image(3), false);
        Kit.due("image(2) of nothing", x.image(2), true);
        Kit.tell(x, 0, "nodes 5;link 0 4 3;serve 1 ab 7;");
        Kit.tell(x, 1, "ask 0 a;wait 3;");
        Kit.tell(x, 2, "lost 0;");
        Kit.tell(x, 1, "wait 99;");
        Kit.write(x, "nodes 2;");
        Kit.due("image(0)", x.image(0), true);
        Kit.due("again(1)", x.again(1), false);
        x.text(0, 0);
        Kit.tell(x, 1, "ask 0 b;");
        Kit.write(x, "wait 1;ask 2 c;");
        x.text(1, 0);
        Kit.write(x, "got 1 1;");
        x.text(2, 0);
        Kit.due("image(1)", x.image(1), true);
        Kit.due("again(0)", x.again(0), true);
        due("count of runs", x.count(1), 1);
        due("nodes", x.net(0, 0), 5);
        due("delay", x.net(0, 140), 3);
        due("serve", x.net(0, 320), 29);
        due("deed", x.deed(0, 0, 0), 0);
        due("deed", x.deed(0, 1, 1), 3);
        due("fact", x.fact(0, 0, 1), NONE);
        due("the FAULT, too", x.fault(0), 2);
        due("its place", x.fault(1), 5);
        due("the tape, too", x.end(8), 8);
        due("its bytes", x.text(0, NONE), 1);
        due("nodes", x.net(1, 0), 2);
        Kit.due("again(1)", x.again(1), true);
        due("count of nets", x.count(0), 1);
        due("nodes", x.net(0, 0), 2);
        due("count of runs", x.count(1), 2);
        due("deed", x.deed(0, 1, 0), 0);
        due("fact", x.fact(0, 0, 1), 1);
        due("FAULT", x.fault(0), 0);
        Kit.due("again(0), a second time", x.again(0), true);
        due("nodes", x.net(0, 0), 5);
        Kit.due("image(0), a second time", x.image(0), true);
        Kit.due("again(2)", x.again(2), true);
        due("nothing", x.count(0) + x.count(1) + x.count(2), 0);
        due("nothing on the tape", x.end(1), NONE);
        due("no FAULT", x.fault(0), 0);
        Kit.due("again(0)", x.again(0), true);
        due("nodes", x.net(0, 0), 5);
        Kit.due("again(3)", x.again(3), false);
        Kit.due("again(-1)", x.again(-1), false);
    }

    /** The calls that README.md shows, so that it stays true. */
    private static void readme() {
        AskedNames x = new AskedNames();
        due("feed", x.feed(0x6e6f6465, 0x7320323b, 0x73657276, 0x65203120, 0x6120393b), 20);
        due("text of the net", x.text(0, NONE), 0);
        due("feed", x.feed(0x61736b20, 0x3120613b, 0x77616974, 0x20313b20, 0x20202020), 20);
        due("text of the run", x.text(1, NONE), 0);
        due("stop", x.stop(0, 0), 2);
        due("why", x.why(0, 0, 0, 0), 1);
        due("ab", Kit.name("ab"), 29);
    }
}
