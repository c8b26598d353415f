import java.util.HashSet;
import java.util.Random;
import java.util.Set;

/** The class and the model get the same drawn texts and questions, and must answer alike. */
public final class ModelTest {
    private static final int ROUNDS = 1000;

    private final Random random;
    private final AskedNames x = new AskedNames();
    private final Model m = new Model();
    private final String title;

    private ModelTest(int seed) {
        random = new Random(seed);
        title = "round " + seed + ": ";
    }

    public static void main(String[] args) {
        int rounds = args.length > 0 ? Integer.parseInt(args[0]) : ROUNDS;
        for (int seed = 0; seed < rounds; seed++) {
            new ModelTest(seed).round();
        }
        Kit.finish();
    }

    private void round() {
        int nets = 1 + random.nextInt(2);
        for (int i = 0; i < nets; i++) {
            tell(0, -1, spoil(netText()));
        }
        for (int i = 0; i < 2; i++) {
            tell(1, -1, spoil(runText()));
        }
        for (int i = 0; i < 2; i++) {
            tell(2, -1, spoil(logText()));
        }
        lookAtAll();
        ask(120);
        image(random.nextInt(4) - 1);
        int sort = random.nextInt(5) - 1;
        tell(sort, random.nextInt(4) - 1, sort == 0 ? netText() : sort == 1 ? runText() : logText());
        ask(40);
        due("again", x.again(1) ? 1 : 0, m.again(1) ? 1 : 0);
        ask(20);
        due("again", x.again(0) ? 1 : 0, m.again(0) ? 1 : 0);
        ask(20);
    }

    private void due(String call, int got, int want) {
        Kit.due(title + call, got, want);
    }

    private void image(int k) {
        due("image " + k, x.image(k) ? 1 : 0, m.image(k) ? 1 : 0);
    }

    private void tell(int sort, int at, String text) {
        int want = m.end(0);
        due("end", x.end(0), want);
        for (int i = 0; i < text.length(); i += 20) {
            int[] f = Kit.twenty(text, i);
            want = m.feed(f[0], f[1], f[2], f[3], f[4]);
            due("feed", x.feed(f[0], f[1], f[2], f[3], f[4]), want);
        }
        want = m.end(text.length());
        due("end", x.end(text.length()), want);
        want = m.text(sort, at);
        due("text " + sort + " " + at + " " + text, x.text(sort, at), want);
        due("fault of " + text, x.fault(0), m.fault(0));
        due("place in " + text, x.fault(1), m.fault(1));
        if (random.nextInt(8) == 0) {
            int n = random.nextInt(9) - 1;
            want = m.end(n);
            due("end " + n, x.end(n), want);
        }
        for (int s = -1; s < 4; s++) {
            due("count", x.count(s), m.count(s));
        }
    }

    private String spoil(String text) {
        if (random.nextInt(5) != 0 || text.isEmpty()) {
            return text;
        }
        StringBuilder s = new StringBuilder(text);
        int places = 1 + random.nextInt(2);
        for (int i = 0; i < places; i++) {
            String signs = "abknz059; \n;1A-\u00e9";
            char sign = signs.charAt(random.nextInt(signs.length()));
            int at = random.nextInt(s.length());
            switch (random.nextInt(3)) {
                case 0 -> s.setCharAt(at, sign);
                case 1 -> s.insert(at, sign);
                default -> s.deleteCharAt(at);
            }
        }
        return s.length() > 600 ? text : s.toString();
    }

    private String word() {
        String[] words = {"a", "a", "a", "a", "ab", "ab", "ab", "abc", "b", "abca", "aa", "aab"};
        return random.nextInt(60) == 0 ? "abcde" : words[random.nextInt(words.length)];
    }

    private String gap() {
        return random.nextInt(12) == 0 ? "\n " : " ";
    }

    private String netText() {
        return random.nextInt(3) == 0 ? looseNet() : livelyNet();
    }

    /** Many ways for few names along links that are there, so that messages meet, turn back and go round. */
    private String livelyNet() {
        int nodes = 2 + random.nextInt(5);
        int slow = 1 + random.nextInt(9);
        String[] words = random.nextBoolean() ? new String[] {"a"} : new String[] {"a", "a", "ab"};
        StringBuilder s = new StringBuilder("nodes " + nodes + ";");
        if (random.nextInt(3) != 0) {
            s.append("life ").append(1 + random.nextInt(30)).append(";");
        }
        for (int a = 0; a < nodes; a++) {
            int more = random.nextInt(3);
            s.append(link(a, (a + 1) % nodes, slow));
            for (int i = 0; i < more; i++) {
                s.append(link(a, random.nextInt(nodes), slow));
            }
        }
        int routes = 6 + random.nextInt(7);
        for (int i = 0; i < routes; i++) {
            int a = i < nodes ? i : random.nextInt(nodes);
            int b = random.nextInt(3) == 0 ? random.nextInt(nodes) : (a + 1) % nodes;
            if (a != b) {
                s.append("route ").append(a).append(gap()).append(words[random.nextInt(words.length)]).append(" ");
                s.append(b).append(" ").append(random.nextInt(random.nextBoolean() ? 3 : 30)).append(";");
            }
        }
        int serves = random.nextInt(3);
        for (int i = 0; i < serves; i++) {
            s.append("serve ").append(random.nextInt(nodes)).append(" ").append(words[random.nextInt(words.length)]);
            s.append(" ").append(random.nextInt(30)).append(";");
        }
        for (int i = random.nextInt(3); i > 0; i--) {
            s.append("room ").append(random.nextInt(nodes)).append(" ").append(random.nextInt(5)).append(";");
        }
        return s.length() > 590 ? looseNet() : s.toString();
    }

    private String link(int a, int b, int slow) {
        return a == b ? "" : "link " + a + gap() + b + gap() + (1 + random.nextInt(slow)) + ";";
    }

    private String looseNet() {
        StringBuilder s = new StringBuilder();
        int nodes = 1 + random.nextInt(6);
        s.append("nodes").append(gap()).append(nodes - (random.nextInt(20) == 0 ? 1 : 0)).append(";");
        int slow = 1 + random.nextInt(9);
        if (random.nextBoolean()) {
            s.append("life ").append(1 + random.nextInt(random.nextBoolean() ? 12 : 40)).append(";");
        }
        int lines = 4 + random.nextInt(26);
        for (int i = 0; i < lines; i++) {
            int a = random.nextInt(nodes);
            int b = nodes == 1 ? 0 : (a + 1 + random.nextInt(nodes - 1)) % nodes;
            int kind = random.nextInt(20);
            String line;
            if (kind < 8) {
                line = nodes == 1 ? "" : "link " + a + gap() + b + gap() + (1 + random.nextInt(slow)) + ";";
            } else if (kind < 16) {
                line = nodes == 1 ? "" : "route " + a + gap() + word() + " " + b + " " + random.nextInt(12) + gap() + ";";
            } else if (kind < 18) {
                line = "serve " + a + " " + word() + " " + random.nextInt(30) + ";";
            } else {
                line = "room " + a + gap() + random.nextInt(5) + ";";
            }
            if (s.length() + line.length() < 596) {
                s.append(line);
            }
        }
        return s.toString();
    }

    private String runText() {
        StringBuilder s = new StringBuilder();
        int lines = random.nextInt(41);
        int hasty = 1 + random.nextInt(8);
        Set<String> down = new HashSet<>();
        for (int i = 0; i < lines; i++) {
            int a = random.nextInt(m.net(0, 0) > 0 && random.nextInt(20) != 0 ? m.net(0, 0) : 6);
            int kind = random.nextInt(20);
            String line;
            if (kind < 7) {
                line = "ask " + a + gap() + word() + ";";
            } else if (kind < 10) {
                line = "fresh " + a + " " + word() + ";";
            } else if (kind < 18) {
                line = "wait " + (1 + random.nextInt(hasty)) + ";";
            } else {
                line = cutOrMend(down);
            }
            if (s.length() + line.length() < 596) {
                s.append(line);
            }
        }
        return s.toString();
    }

    private String cutOrMend(Set<String> down) {
        int a = random.nextInt(6);
        int b = (a + 1 + random.nextInt(5)) % 6;
        // Mostly links that are there, so that runs go on.
        for (int i = 0; i < 60 && m.net(0, 100 + 10 * a + b) < 0; i++) {
            a = random.nextInt(6);
            b = (a + 1 + random.nextInt(5)) % 6;
        }
        String link = Math.min(a, b) + " " + Math.max(a, b);
        boolean cut = random.nextInt(25) == 0 ? random.nextBoolean() : !down.contains(link);
        if (cut) {
            down.add(link);
        } else {
            down.remove(link);
        }
        return (cut ? "cut " : "mend ") + a + gap() + b + ";";
    }

    private String logText() {
        StringBuilder s = new StringBuilder();
        int lines = random.nextInt(5);
        for (int i = 0; i < lines; i++) {
            int k = random.nextInt(12);
            int result = m.why(0, 0, k, 0);
            if (random.nextInt(6) == 0) {
                s.append("got ").append(k).append(" ").append(random.nextInt(20)).append(";");
            } else if (result == 1) {
                s.append("got ").append(k).append(" ").append(m.why(0, 0, k, 1)).append(";");
            } else {
                s.append("lost ").append(k).append(gap()).append(";");
            }
        }
        return s.toString();
    }

    /** Every answer of one run, and of some of its states. */
    private void lookAtAll() {
        int net = random.nextInt(Math.max(1, m.count(0)));
        int run = random.nextInt(Math.max(1, m.count(1)));
        int stop = m.stop(net, run);
        for (int what = -1; what < 10; what++) {
            due("after " + net + ", " + run + ", " + what, x.after(net, run, what), m.after(net, run, what));
        }
        for (int k = 0; k <= stop; k++) {
            for (int what = -1; what < 8; what++) {
                due("why " + net + ", " + run + ", " + k + ", " + what, x.why(net, run, k, what), m.why(net, run, k, what));
            }
        }
        for (int i = 0; i < 3 && stop >= 0; i++) {
            lookAtState(net, run, random.nextInt(stop + 1));
        }
    }

    private void lookAtState(int net, int run, int n) {
        String on = net + ", " + run + ", " + n + ", ";
        for (int what = -1; what < 160; what++) {
            due("state " + on + what, x.state(net, run, n, what), m.state(net, run, n, what));
        }
        for (int node = 0; node < 6; node++) {
            for (int i = 0; i < 3; i++) {
                for (int what = -1; what < 9; what++) {
                    String at = on + node + ", " + i + ", " + what;
                    due("entry " + at, x.entry(net, run, n, node, i, what), m.entry(net, run, n, node, i, what));
                    due("stored " + at, x.stored(net, run, n, node, i, what), m.stored(net, run, n, node, i, what));
                }
            }
        }
    }

    private int some(int most) {
        return random.nextInt(15) == 0 ? random.nextInt(most + 30) - 4 : random.nextInt(Math.max(most, 1));
    }

    private int number(int sort) {
        return random.nextInt(12) == 0 ? random.nextInt(4) - 1 : random.nextInt(Math.max(1, m.count(sort)));
    }

    private void ask(int calls) {
        for (int i = 0; i < calls; i++) {
            askOnce();
        }
    }

    private void askOnce() {
        int net = number(0);
        int run = number(1);
        int log = number(2);
        int node = some(Math.max(1, m.net(net, 0)));
        int other = some(Math.max(1, m.net(net, 0)));
        int k = some(Math.max(1, m.deed(run, -1, 0)));
        int n = some(Math.max(1, m.stop(net, run) + 1));
        int name = random.nextInt(10) == 0 ? random.nextInt(900) - 20 : Kit.name(word());
        int wish = some(2);
        int i = some(3);
        String on = net + ", " + run + ", ";
        switch (random.nextInt(19)) {
            case 0 -> {
                int what = random.nextBoolean() ? some(5) : some(380);
                due("net " + net + ", " + what, x.net(net, what), m.net(net, what));
            }
            case 1 -> {
                int at = random.nextInt(5) == 0 ? -1 : k;
                int what = some(3);
                due("deed " + run + ", " + at + ", " + what, x.deed(run, at, what), m.deed(run, at, what));
            }
            case 2 -> due("stop " + on, x.stop(net, run), m.stop(net, run));
            case 3, 4 -> {
                int what = look(node, other);
                due("state " + on + n + ", " + what, x.state(net, run, n, what), m.state(net, run, n, what));
            }
            case 5, 6 -> {
                int what = some(3);
                due("stored " + on + n + ", " + node + ", " + i + ", " + what,
                    x.stored(net, run, n, node, i, what), m.stored(net, run, n, node, i, what));
            }
            case 7, 8 -> {
                int what = some(8);
                due("entry " + on + n + ", " + node + ", " + i + ", " + what,
                    x.entry(net, run, n, node, i, what), m.entry(net, run, n, node, i, what));
            }
            case 9, 10 -> {
                int what = some(7);
                due("why " + on + k + ", " + what, x.why(net, run, k, what), m.why(net, run, k, what));
            }
            case 11 -> {
                int what = some(3);
                due("alone " + net + ", " + node + ", " + name + ", " + wish + ", " + what,
                    x.alone(net, node, name, wish, what), m.alone(net, node, name, wish, what));
            }
            case 12 -> {
                int what = some(2);
                due("table " + net + ", " + node + ", " + what, x.table(net, node, what), m.table(net, node, what));
                due("ways " + net + ", " + node + ", " + name, x.ways(net, node, name, false), m.ways(net, node, name, false));
                due("letters " + net + ", " + node + ", " + name, x.ways(net, node, name, true), m.ways(net, node, name, true));
            }
            case 13 -> {
                int at = random.nextInt(3) == 0 ? 20 : some(7) - 1;
                due("trail " + net + ", " + node + ", " + name + ", " + at,
                    x.trail(net, node, name, at), m.trail(net, node, name, at));
            }
            case 14 -> due("far " + net + ", " + node + ", " + other, x.far(net, node, other), m.far(net, node, other));
            case 15 -> {
                int at = some(8) - 1;
                int what = some(2);
                due("fact " + log + ", " + at + ", " + what, x.fact(log, at, what), m.fact(log, at, what));
            }
            case 16 -> {
                int what = random.nextBoolean() ? some(2) : 10 + some(5);
                due("fits " + on + log + ", " + what, x.fits(net, run, log, what), m.fits(net, run, log, what));
            }
            case 17 -> {
                int seed = random.nextInt();
                int times = some(61);
                int what = look(node, other);
                due("drawn " + net + ", " + seed + ", " + times + ", " + what,
                    x.drawn(net, seed, times, what), m.drawn(net, seed, times, what));
            }
            default -> {
                int what = some(9);
                due("after " + on + what, x.after(net, run, what), m.after(net, run, what));
                int bits = some(5);
                due("edges " + net + ", " + bits, x.edges(net, bits), m.edges(net, bits));
            }
        }
    }

    private int look(int node, int other) {
        return switch (random.nextInt(6)) {
            case 0 -> some(4);
            case 1 -> 10 + node;
            case 2 -> 20 + node;
            case 3 -> 30 + node;
            case 4 -> some(170);
            default -> 100 + 10 * node + other;
        };
    }
}
