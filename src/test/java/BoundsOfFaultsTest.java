/** Promises 4 and 5 by Term 1, how texts are read: each sentence that names a bound has a test of its own. */
public final class BoundsOfFaultsTest {

    private static final int NONE = AskedNames.NONE;
    private static final String[] GOOD = {"nodes 2;", "wait 2;", "lost 2;"};

    public static void main(String[] args) {
        bytesAndTokens();
        wordsThatBeginALine();
        numbersThatCannotBe();
        oneTooMany();
        nodesThatAreNotThere();
        whichFaultIsTold();
        Kit.finish();
    }

    private static void due(String call, int got, int want) {
        Kit.due(call, got, want);
    }

    private static void bytesAndTokens() {
        everyByteBehindANumber();
        everyByteAsTheFirst();
        everyByteAsAWord();
        everyByteAsANumber();
        tokensGoAsLongAsTheyCan();
        numbersOfOneOrTwoDigits();
        placeOfTheEnd();
        nothingComesBehindTheEnd();
    }

    private static void wordsThatBeginALine() {
        lineOfAnotherSort();
        lineOfAnotherWord();
        lineWithATokenTooMany();
        lineWithATokenTooFew();
    }

    private static void numbersThatCannotBe() {
        nodesFromOneToSix();
        lifeFromOne();
        roomUpToFour();
        delayFromOneToNine();
        costAndFreshUpTo99();
        nodesFromNoughtToFive();
        unlikeNodes();
        wordsUpToFourLetters();
        minutesOfWaits();
        deedsAndMinutesOfFacts();
    }

    private static void oneTooMany() {
        thirteenthRoute();
        seventhServe();
        deedNumber41();
        ninthFact();
    }

    // ---- Promises 4 and 5 by Term 1: bytes and tokens -------------------------------------------

    private static boolean isLetter(int sign) {
        return sign >= 'a' && sign <= 'z';
    }

    private static boolean isDigit(int sign) {
        return sign >= '0' && sign <= '9';
    }

    private static boolean isBlank(int sign) {
        return sign == 10 || sign == 32;
    }

    private static void everyByteBehindANumber() {
        Kit.of("Promise 4, text, by Term 1", "blanks (10, 32) between");
        for (int sign = 0; sign < 256; sign++) {
            boolean good = isBlank(sign) || isDigit(sign);
            Kit.fault(0, "life 5" + (char) sign + ";", good ? 0 : 1, sign == ';' ? 7 : 6);
        }
    }

    private static void everyByteAsTheFirst() {
        Kit.of("Promise 5, fault, by Term 1", "1 the first byte or token with which no text goes on");
        for (int sign = 0; sign < 256; sign++) {
            Kit.fault(0, (char) sign + "life 5;", isBlank(sign) ? 0 : 1, 0);
            Kit.fault(1, (char) sign + "wait 5;", isBlank(sign) ? 0 : 1, 0);
            Kit.fault(2, (char) sign + "lost 5;", isBlank(sign) ? 0 : 1, 0);
        }
    }

    private static void everyByteAsAWord() {
        Kit.of("Promise 4, text, by Term 1", "words, rows of letters a .. z");
        for (int sign = 0; sign < 256; sign++) {
            Kit.fault(1, "ask 0 " + (char) sign + ";", isLetter(sign) ? 0 : 1, isBlank(sign) ? 7 : 6);
            if (isLetter(sign)) {
                AskedNames x = new AskedNames();
                Kit.tell(x, 1, "ask 0 " + (char) sign + ";");
                due("letters as 1 .. 26", x.deed(0, 0, 2), sign - 96);
            }
        }
    }

    private static void everyByteAsANumber() {
        Kit.of("Promise 4, text, by Term 1", "NUMBERS, 1 or 2 digits");
        for (int sign = 0; sign < 256; sign++) {
            Kit.fault(2, "lost " + (char) sign + ";", isDigit(sign) ? 0 : 1, isBlank(sign) ? 6 : 5);
            Kit.fault(2, "lost 1" + (char) sign + ";", isDigit(sign) || isBlank(sign) ? 0 : 1, sign == ';' ? 7 : 6);
        }
    }

    private static void tokensGoAsLongAsTheyCan() {
        Kit.of("Promise 4, text, by Term 1", "TOKENS, as long as they go");
        Kit.fault(0, "nodes6;life9;room5 4;", 0, 0);
        Kit.fault(0, "link0 1 9;route0a1 0;serve0b5;", 0, 0);
        Kit.fault(0, "room04;", 1, 6);
        Kit.fault(0, "nodeslife 5;", 1, 0);
        Kit.fault(0, "node s 5;", 1, 0);
        Kit.fault(0, "lif 5;", 1, 0);
        Kit.fault(0, "lifes 5;", 1, 0);
        Kit.fault(0, "life 5 5;", 1, 7);
        Kit.fault(0, "life 5;;", 1, 7);
        Kit.fault(0, "serve 0 a b 5;", 1, 10);
        Kit.fault(1, "ask 0 a b;", 1, 8);
        AskedNames x = new AskedNames();
        Kit.tell(x, 0, "serve0abcd99;");
        due("the word", x.net(0, 320), Kit.name("abcd"));
        due("the number", x.net(0, 340), 99);
    }

    private static void numbersOfOneOrTwoDigits() {
        Kit.of("Promise 5, fault, by Term 1", "(a longer row of digits is no token)");
        Kit.fault(0, "life 9;", 0, 0);
        Kit.fault(0, "life 09;", 0, 0);
        Kit.fault(0, "life 99;", 0, 0);
        Kit.fault(0, "life 009;", 1, 5);
        Kit.fault(0, "life 100;", 1, 5);
        Kit.fault(0, "life 4294967297;", 1, 5);
        Kit.fault(0, "life 00000000000000000000000000000000000000000001;", 1, 5);
        Kit.fault(0, "route 0 a 1 100;", 1, 12);
        Kit.fault(0, "serve 0 a 100;", 1, 10);
        Kit.fault(1, "wait 001;", 1, 5);
        Kit.fault(2, "got 1 100;", 1, 6);
        AskedNames x = new AskedNames();
        Kit.tell(x, 0, "life 09;");
        due("09 is 9", x.net(0, 1), 9);
    }

    private static void placeOfTheEnd() {
        Kit.of("Promise 5, fault, by Term 1", "with places (a token's first byte; the end's)");
        for (int sort = 0; sort < 3; sort++) {
            Kit.fault(sort, "", 0, 0);
            Kit.fault(sort, " ", 0, 0);
            Kit.fault(sort, "\n", 0, 0);
            String line = GOOD[sort];
            for (int n = 1; n < line.length(); n++) {
                // A row of letters that is no word of the text is told at its own place.
                Kit.fault(sort, line.substring(0, n), 1, n < line.length() - 3 ? 0 : n);
                Kit.fault(sort, line.substring(0, n) + "  \n", 1, n < line.length() - 3 ? 0 : n + 3);
            }
            Kit.fault(sort, " ".repeat(600 - line.length()) + line, 0, 0);
            Kit.fault(sort, " ".repeat(601 - line.length()) + line.substring(0, line.length() - 1), 1, 600);
        }
        Kit.fault(0, "room 5 4;" + " ".repeat(591), 4, 600);
        Kit.fault(0, "nodes 3;\n \n  xlife", 1, 13);
    }

    /** Bytes that end() took away are not read, whether a word or a number would go on with them. */
    private static void nothingComesBehindTheEnd() {
        Kit.of("Promise 3, end", "The tape has its first n bytes alone: n.");
        String[][] cut = {{"life", "xyz"}, {"life 5", "5;"}, {"life 5;", ";"}, {"life 5;life", "s"}, {"life", " 5;"}};
        int[] places = {4, 6, -1, 11, 4};
        for (int i = 0; i < cut.length; i++) {
            AskedNames x = new AskedNames();
            Kit.write(x, cut[i][0] + cut[i][1]);
            x.end(cut[i][0].length());
            due("text " + cut[i][0], x.text(0, NONE), places[i] < 0 ? 0 : NONE);
            due("place in " + cut[i][0], x.fault(1), places[i]);
        }
        // The tape's last byte of all is a letter, a digit.
        Kit.fault(0, " ".repeat(596) + "life", 1, 600);
        Kit.fault(0, " ".repeat(594) + "life 5", 1, 600);
        Kit.fault(0, " ".repeat(599) + "l", 1, 599);
    }

    private static final String[][] LINES = {
        {"nodes 3;", "life 1;", "room 1 1;", "link 0 1 1;", "route 0 a 1 1;", "serve 0 a 1;"},
        {"ask 0 a;", "fresh 0 a;", "wait 1;", "cut 0 1;", "mend 0 1;"},
        {"got 0 1;", "lost 0;"}};

    private static void lineOfAnotherSort() {
        Kit.of("Promise 4, text, by Term 1", "A NET's text");
        for (int sort = 0; sort < 3; sort++) {
            for (int of = 0; of < 3; of++) {
                for (String line : LINES[of]) {
                    Kit.fault(sort, line, of == sort ? 0 : 1, 0);
                    Kit.fault(sort, LINES[sort][0] + line, of == sort ? 0 : 1, 8);
                }
            }
        }
    }

    /** W a word, N a number, M the mark; another sign for what is no token. */
    private static char kindOf(String token) {
        boolean number = isDigit(token.charAt(0)) && token.length() <= 2;
        return isLetter(token.charAt(0)) ? 'W' : number ? 'N' : token.equals(";") ? 'M' : '?';
    }

    /** A line of these tokens, where this one was due, goes wrong at the first token of another kind. */
    private static void wrongLine(int sort, String[] due, String[] tokens) {
        StringBuilder text = new StringBuilder();
        int place = NONE;
        for (int i = 0; i < tokens.length; i++) {
            boolean same = i < due.length && kindOf(tokens[i]) == kindOf(due[i]);
            if (place == NONE && !same) {
                place = text.length();
            }
            text.append(tokens[i]).append(i % 2 == 0 ? " " : "\n");
        }
        Kit.fault(sort, text.toString(), 1, place == NONE ? text.length() : place);
    }

    private static String[] tokensOf(String line) {
        return line.replace(";", " ;").split(" ");
    }

    private static void lineWithATokenTooMany() {
        Kit.of("Promise 5, fault, by Term 1", "1 the first byte or token with which no text goes on");
        for (int sort = 0; sort < 3; sort++) {
            for (String line : LINES[sort]) {
                String[] due = tokensOf(line);
                for (int at = 1; at <= due.length; at++) {
                    for (String more : new String[] {"7", "xx", ";", "!", "123"}) {
                        String[] tokens = new String[due.length + 1];
                        System.arraycopy(due, 0, tokens, 0, at);
                        tokens[at] = more;
                        System.arraycopy(due, at, tokens, at + 1, due.length - at);
                        wrongLine(sort, due, tokens);
                    }
                }
            }
        }
    }

    private static void lineWithATokenTooFew() {
        Kit.of("Promise 5, fault, by Term 1", "1 the first byte or token with which no text goes on");
        for (int sort = 0; sort < 3; sort++) {
            for (String line : LINES[sort]) {
                String[] due = tokensOf(line);
                for (int at = 1; at < due.length; at++) {
                    String[] tokens = new String[due.length - 1];
                    System.arraycopy(due, 0, tokens, 0, at);
                    System.arraycopy(due, at + 1, tokens, at, due.length - at - 1);
                    wrongLine(sort, due, tokens);
                }
            }
        }
    }

    private static void lineOfAnotherWord() {
        Kit.of("Promise 5, fault, by Term 1", "1 the first byte or token with which no text goes on");
        for (int sort = 0; sort < 3; sort++) {
            for (String line : LINES[sort]) {
                int end = line.indexOf(' ');
                for (int i = 0; i < end; i++) {
                    char other = line.charAt(i) == 'x' ? 'y' : 'x';
                    Kit.fault(sort, line.substring(0, i) + other + line.substring(i + 1), 1, 0);
                    Kit.fault(sort, line.substring(0, i) + line.substring(i + 1), 1, 0);
                    Kit.fault(sort, line.substring(0, i) + line.charAt(i) + line.substring(i), 1, 0);
                }
            }
        }
    }

    // ---- Promises 4 and 5 by Term 1: numbers and words that can't be ----------------------------

    /** A number in a line: the least and the greatest are taken, those beyond are FAULT 2 at its place. */
    private static void bounds(int sort, String ahead, String behind, int least, int greatest) {
        for (int n = 0; n < 100; n++) {
            Kit.fault(sort, ahead + n + behind, n >= least && n <= greatest ? 0 : 2, ahead.length());
        }
    }

    private static void nodesFromOneToSix() {
        Kit.of("Promise 4, text, by Term 1", "A NET has NODES, 1 .. 6 of them (3 at first)");
        bounds(0, "nodes ", ";", 1, 6);
        due("at first", Kit.told("", "").net(0, 0), 3);
        due("least", Kit.told("nodes 1;", "").net(0, 0), 1);
        due("most", Kit.told("nodes 6;", "").net(0, 0), 6);
    }

    private static void lifeFromOne() {
        Kit.of("Promise 4, text, by Term 1", "a LIFE, 1 .. 99 (20 at first)");
        bounds(0, "life ", ";", 1, 99);
        due("at first", Kit.told("", "").net(0, 1), 20);
        due("least", Kit.told("life 1;", "").net(0, 1), 1);
        due("most", Kit.told("life 99;", "").net(0, 1), 99);
    }

    private static void roomUpToFour() {
        Kit.of("Promise 4, text, by Term 1", "a ROOM of each NODE's STORE, 0 .. 4 (2 at first)");
        bounds(0, "room 0 ", ";", 0, 4);
        AskedNames x = Kit.told("nodes 6;room 0 0;room 5 4;", "");
        due("least", x.net(0, 10), 0);
        due("most", x.net(0, 15), 4);
        for (int node = 1; node < 5; node++) {
            due("at first", x.net(0, 10 + node), 2);
        }
    }

    private static void delayFromOneToNine() {
        Kit.of("Promise 4, text, by Term 1", "LINKS between two unlike NODES, of a DELAY, 1 .. 9");
        bounds(0, "link 0 1 ", ";", 1, 9);
        due("least", Kit.told("link 0 1 1;", "").net(0, 101), 1);
        due("most", Kit.told("link 0 1 9;", "").net(0, 110), 9);
    }

    private static void costAndFreshUpTo99() {
        Kit.of("Promise 4, text, by Term 1", "at a COST, 0 .. 99");
        bounds(0, "route 0 a 1 ", ";", 0, 99);
        due("least", Kit.told("route 0 a 1 0;", "").net(0, 260), 0);
        due("most", Kit.told("route 0 a 1 99;", "").net(0, 260), 99);
        Kit.of("Promise 4, text, by Term 1", "FRESH for so many minutes, 0 .. 99");
        bounds(0, "serve 0 a ", ";", 0, 99);
        due("least", Kit.told("serve 0 a 0;", "").net(0, 340), 0);
        due("most", Kit.told("serve 0 a 99;", "").net(0, 340), 99);
    }

    private static void nodesFromNoughtToFive() {
        Kit.of("Promise 4, text, by Term 1", "NODES are 0 .. 5");
        bounds(0, "nodes 6;room ", " 1;", 0, 5);
        bounds(0, "nodes 6;serve ", " a 1;", 0, 5);
        bounds(1, "ask ", " a;", 0, 5);
        bounds(1, "fresh ", " a;", 0, 5);
        bounds(0, "nodes 6;link 5 ", " 1;", 0, 4);
        bounds(0, "nodes 6;route 5 a ", " 1;", 0, 4);
        bounds(1, "cut 5 ", ";", 0, 4);
        bounds(1, "mend 5 ", ";", 0, 4);
        for (int n = 0; n < 100; n++) {
            // The second one is unlike the first, so the first alone can be wrong.
            int other = n == 0 ? 1 : 0;
            Kit.fault(0, "nodes 6;link " + n + " " + other + " 1;", n < 6 ? 0 : 2, 13);
            Kit.fault(0, "nodes 6;route " + n + " a " + other + " 1;", n < 6 ? 0 : 2, 14);
            Kit.fault(1, "cut " + n + " " + other + ";", n < 6 ? 0 : 2, 4);
            Kit.fault(1, "mend " + n + " " + other + ";", n < 6 ? 0 : 2, 5);
        }
    }

    private static void unlikeNodes() {
        Kit.of("Promise 5, fault, by Term 1", "of link, route, cut, mend the second NODE, if it is the first");
        for (int a = 0; a < 6; a++) {
            for (int b = 0; b < 6; b++) {
                int number = a == b ? 2 : 0;
                Kit.fault(0, "nodes 6;link " + a + " " + b + " 1;", number, 15);
                Kit.fault(0, "nodes 6;route " + a + " a " + b + " 1;", number, 18);
                Kit.fault(1, "cut " + a + " " + b + ";", number, 6);
                Kit.fault(1, "mend " + a + " " + b + ";", number, 7);
            }
        }
        Kit.fault(0, "room 1 1;", 0, 0);
        Kit.fault(0, "serve 1 a 1;", 0, 0);
        Kit.fault(2, "got 1 1;", 0, 0);
        Kit.fault(0, "link 1 01 1;", 2, 7);
    }

    private static void wordsUpToFourLetters() {
        Kit.of("Promise 5, fault, by Term 1", "a WORD of more than 4 letters");
        for (String letter : new String[] {"a", "z"}) {
            for (int n = 1; n <= 30; n++) {
                String word = letter.repeat(n);
                int number = n <= 4 ? 0 : 2;
                Kit.fault(0, "route 0 " + word + " 1 0;", number, 8);
                Kit.fault(0, "serve 0 " + word + " 0;", number, 8);
                Kit.fault(1, "ask 0 " + word + ";", number, 6);
                Kit.fault(1, "fresh 0 " + word + ";", number, 8);
            }
        }
        Kit.of("Promise 7, deed, by Term 1", "letters as 1 .. 26, by 27s, the first one the greatest part");
        String[] words = {"a", "z", "aa", "az", "za", "zz", "aaa", "zzz", "aaaa", "abcd", "zzzz"};
        int[] numbers = {1, 26, 28, 53, 703, 728, 757, 19682, 20440, 21226, 531440};
        for (int i = 0; i < words.length; i++) {
            due(words[i], Kit.told("", "ask 0 " + words[i] + ";").deed(0, 0, 2), numbers[i]);
            due(words[i], Kit.told("serve 0 " + words[i] + " 0;", "").net(0, 320), numbers[i]);
            due(words[i], Kit.told("route 0 " + words[i] + " 1 0;", "").net(0, 220), numbers[i]);
        }
    }

    private static void minutesOfWaits() {
        Kit.of("Promise 4, text, by Term 1", "wait: minutes, 1 .. 20");
        bounds(1, "wait ", ";", 1, 20);
        due("least", Kit.told("", "wait 1;").deed(0, 0, 1), 1);
        due("most", Kit.told("", "wait 20;").deed(0, 0, 1), 20);
    }

    private static void deedsAndMinutesOfFacts() {
        Kit.of("Promise 4, text, by Term 1", "an ask, a DEED, 0 .. 39, got DATA at a minute, 0 .. 99, or did not");
        bounds(2, "got ", " 0;", 0, 39);
        bounds(2, "lost ", ";", 0, 39);
        bounds(2, "got 0 ", ";", 0, 99);
    }

    // ---- Promises 4 and 5 by Term 1: one too many, nodes that are not there ---------------------

    private static void thirteenthRoute() {
        Kit.of("Promise 5, fault, by Term 1", "3 a 13th ROUTE");
        String line = " route 0 a 1 0;";
        for (int n = 10; n <= 16; n++) {
            Kit.fault(0, line.repeat(n), n <= 12 ? 0 : 3, 12 * 15 + 1);
            Kit.fault(0, "life 9;".repeat(14) + line.repeat(n), n <= 12 ? 0 : 3, 98 + 12 * 15 + 1);
        }
        due("routes", Kit.told(line.repeat(12), "").net(0, 3), 12);
    }

    private static void seventhServe() {
        Kit.of("Promise 5, fault, by Term 1", "a 7th SERVE");
        String line = " serve 0 a 1;";
        for (int n = 4; n <= 9; n++) {
            Kit.fault(0, line.repeat(n), n <= 6 ? 0 : 3, 6 * 13 + 1);
            Kit.fault(0, "route 0 a 1 0;".repeat(12) + line.repeat(n), n <= 6 ? 0 : 3, 168 + 6 * 13 + 1);
        }
        due("serves", Kit.told(line.repeat(6), "").net(0, 4), 6);
    }

    private static void deedNumber41() {
        Kit.of("Promise 5, fault, by Term 1", "a 41st DEED");
        String wait = " wait 1;";
        for (int n = 38; n <= 44; n++) {
            Kit.fault(1, wait.repeat(n), n <= 40 ? 0 : 3, 40 * 8 + 1);
        }
        for (String last : new String[] {"ask 0 a;", "fresh 0 a;", "wait 1;", "cut 0 1;", "mend 0 1;"}) {
            Kit.fault(1, wait.repeat(39) + last, 0, 0);
            Kit.fault(1, wait.repeat(40) + last, 3, 320);
        }
        due("deeds", Kit.told("", wait.repeat(40)).deed(0, NONE, 0), 40);
    }

    private static void ninthFact() {
        Kit.of("Promise 5, fault, by Term 1", "a 9th FACT, at its first token");
        for (String line : new String[] {" lost 0;", " got 0 1;"}) {
            for (int n = 6; n <= 11; n++) {
                Kit.fault(2, line.repeat(n), n <= 8 ? 0 : 3, 8 * line.length() + 1);
            }
        }
        Kit.fault(2, "lost 0;".repeat(8) + "got 0 1;", 3, 56);
        Kit.fault(2, "got 0 1;".repeat(8) + "lost 0;", 3, 64);
    }

    private static void nodesThatAreNotThere() {
        Kit.of("Promise 5, fault, by Term 1", "4 a NODE that was told of and is not there");
        for (int nodes = 1; nodes <= 6; nodes++) {
            for (int told = 0; told < 6; told++) {
                int number = told < nodes ? 0 : 4;
                String much = "nodes " + nodes + ";";
                Kit.fault(0, much + "room " + told + " 1;", number, 17);
                Kit.fault(0, "room " + told + " 1;" + much, number, 17);
                Kit.fault(0, much + "serve " + told + " a 1;", number, 20);
                if (told > 0) {
                    Kit.fault(0, much + "link 0 " + told + " 1;", number, 19);
                    Kit.fault(0, much + "link " + told + " 0 1; ", number, 20);
                    Kit.fault(0, much + "route 0 a " + told + " 1;\n", number, 23);
                    Kit.fault(0, much + "route " + told + " a 0 1;", number, 22);
                }
            }
        }
        // A room that is struck was told of all the same.
        Kit.fault(0, "nodes 6;room 3 1;nodes 3;room 0 1;", 4, 34);
        Kit.fault(0, "nodes 1;room 5 1;nodes 6;", 0, 0);
        Kit.fault(1, "ask 5 a;cut 5 4;", 0, 0);
    }

    private static void whichFaultIsTold() {
        Kit.of("Promise 5, fault, by Term 1", "If there is none, the first by place, of one place the least");
        Kit.fault(0, "life 0;nodes 7;", 2, 5);
        Kit.fault(0, "nodes 7;life 0;", 2, 6);
        Kit.fault(0, "link 6 6 0;", 2, 5);
        Kit.fault(0, "link 5 5 0;", 2, 7);
        Kit.fault(0, "route 6 abcde 6 0;", 2, 6);
        Kit.fault(0, "route 0 abcde 0 0;", 2, 8);
        Kit.fault(0, "serve 0 a 1;".repeat(6) + "life 0;serve 0 a 1;", 2, 77);
        Kit.fault(0, "serve 0 a 1;".repeat(7) + "life 0;", 3, 72);
        Kit.fault(0, "serve 0 a 1;".repeat(6) + "serve 6 abcde 1;", 3, 72);
        Kit.fault(0, "route 0 a 1 0;".repeat(12) + "route 0 a 0 0;", 3, 168);
        Kit.fault(1, "wait 1;".repeat(40) + "wait 0;", 3, 280);
        Kit.fault(2, "lost 1;".repeat(8) + "lost 40;", 3, 56);
        Kit.of("Promise 5, fault, by Term 1", "1 the first byte or token with which no text goes on");
        Kit.fault(0, "life 0;nodes 7;x", 1, 15);
        Kit.fault(0, "life 0", 1, 6);
        Kit.fault(0, "x life 0;", 1, 0);
        Kit.fault(0, "life 0;x;y", 1, 7);
        Kit.fault(1, "wait 1;".repeat(41) + "wait", 1, 291);
        Kit.fault(2, "lost 1;".repeat(9) + "lost 1", 1, 69);
        Kit.fault(0, "room 5 1;room", 1, 13);
        Kit.of("Promise 5, fault, by Term 1", "a line with such a one tells its ROUTE, SERVE, DEED, FACT all the same");
        Kit.fault(0, "serve 0 abcde 1;" + "serve 0 a 1;".repeat(6), 2, 8);
        Kit.fault(1, "wait 0;" + "wait 1;".repeat(40), 2, 5);
        Kit.of("Promise 5, fault, by Term 1", "If there is none of these, at the end's place, of a NET");
        Kit.fault(0, "room 5 1;life 0;", 2, 14);
        Kit.fault(0, "room 5 5;", 2, 7);
        Kit.fault(0, "room 5 1;" + "serve 0 a 1;".repeat(7), 3, 81);
        Kit.fault(0, "room 5 1;life 1;", 4, 16);
    }
}
