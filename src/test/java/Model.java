import java.util.ArrayList;
import java.util.HashMap;
import java.util.LinkedHashSet;
import java.util.List;
import java.util.Map;
import java.util.Set;
import java.util.TreeMap;
import java.util.TreeSet;

/**
 * The document once more, written with the Java library and without regard to room or speed:
 * names are Strings, messages and entries are objects of their own. ModelTest compares the two.
 */
final class Model {

    static final class Link {
        final int a;
        final int b;
        int delay;

        Link(int a, int b) {
            this.a = a;
            this.b = b;
        }

        boolean joins(int x, int y) {
            return a == x && b == y || a == y && b == x;
        }
    }

    record Route(int node, String word, int to, int cost) { }

    record Serve(int node, String word, int fresh) { }

    record Deed(String verb, int first, String name, int second) {
        boolean asks() {
            return verb.equals("ask") || verb.equals("fresh");
        }
    }

    record Fact(int deed, int minute) { }

    static final class Net {
        int nodes = 3;
        int life = 20;
        int[] room = {2, 2, 2, 2, 2, 2};
        List<Link> links = new ArrayList<>();
        List<Route> routes = new ArrayList<>();
        List<Serve> serves = new ArrayList<>();

        Link link(int x, int y) {
            for (Link l : links) {
                if (l.joins(x, y)) {
                    return l;
                }
            }
            return null;
        }

        boolean has(int node) {
            return node >= 0 && node < nodes;
        }
    }

    // ---- what is told -------------------------------------------------------------------------

    private List<Integer> tape = new ArrayList<>();
    private List<Net> nets = new ArrayList<>();
    private List<List<Deed>> runs = new ArrayList<>();
    private List<List<Fact>> logs = new ArrayList<>();
    private int fault = 0;
    private int place = -1;
    private final Map<Integer, Model> images = new HashMap<>();

    private void takeFrom(Model other) {
        tape = new ArrayList<>(other.tape);
        nets = new ArrayList<>(other.nets);
        runs = new ArrayList<>(other.runs);
        logs = new ArrayList<>(other.logs);
        fault = other.fault;
        place = other.place;
    }

    int feed(int a, int b, int c, int d, int e) {
        if (tape.size() + 20 > 600) {
            return -1;
        }
        for (int number : new int[] {a, b, c, d, e}) {
            tape.add(number >> 24 & 255);
            tape.add(number >> 16 & 255);
            tape.add(number >> 8 & 255);
            tape.add(number & 255);
        }
        return tape.size();
    }

    int end(int n) {
        if (n < 0 || n > tape.size()) {
            return -1;
        }
        tape = new ArrayList<>(tape.subList(0, n));
        return n;
    }

    int count(int sort) {
        return sort == 0 ? nets.size() : sort == 1 ? runs.size() : sort == 2 ? logs.size() : -2;
    }

    boolean image(int k) {
        if (k < 0 || k > 2) {
            return false;
        }
        Model m = new Model();
        m.takeFrom(this);
        images.put(k, m);
        return true;
    }

    boolean again(int k) {
        if (!images.containsKey(k)) {
            return false;
        }
        takeFrom(images.get(k));
        return true;
    }

    int fault(int what) {
        return what == 0 ? fault : what == 1 ? place : -1;
    }

    // ---- texts --------------------------------------------------------------------------------

    private record Token(char type, String text, int place) { }

    private static final Map<String, String> NET_LINES = Map.of("nodes", "1:6", "life", "1:99", "room", "N 0:4",
        "link", "N M 1:9", "route", "N W M 0:99", "serve", "N W 0:99");
    private static final Map<String, String> RUN_LINES = Map.of("ask", "N W", "fresh", "N W", "wait", "1:20",
        "cut", "N M", "mend", "N M");
    private static final Map<String, String> LOG_LINES = Map.of("got", "0:39 0:99", "lost", "0:39");

    private List<Token> tokens() {
        List<Token> tokens = new ArrayList<>();
        StringBuilder chars = new StringBuilder();
        for (int b : tape) {
            chars.append((char) b);
        }
        String s = chars.toString();
        int i = 0;
        while (i < s.length()) {
            char c = s.charAt(i);
            int j = i;
            if (c == 10 || c == 32) {
                i++;
                continue;
            }
            if (c >= 'a' && c <= 'z') {
                while (j < s.length() && s.charAt(j) >= 'a' && s.charAt(j) <= 'z') {
                    j++;
                }
                tokens.add(new Token('W', s.substring(i, j), i));
            } else if (c >= '0' && c <= '9') {
                while (j < s.length() && s.charAt(j) >= '0' && s.charAt(j) <= '9') {
                    j++;
                }
                tokens.add(new Token(j - i <= 2 ? 'N' : '?', s.substring(i, j), i));
            } else {
                j++;
                tokens.add(new Token(c == ';' ? ';' : '?', s.substring(i, j), i));
            }
            i = j;
        }
        tokens.add(new Token('E', "", s.length()));
        return tokens;
    }

    int text(int sort, int at) {
        List<Token> tokens = tokens();
        tape = new ArrayList<>();
        fault = 0;
        place = -1;
        if (sort < 0 || sort > 2) {
            return -2;
        }
        if (at == -1 ? count(sort) == 2 : at < 0 || at >= count(sort)) {
            return -2;
        }
        Map<String, String> forms = sort == 0 ? NET_LINES : sort == 1 ? RUN_LINES : LOG_LINES;
        List<List<Token>> lines = new ArrayList<>();
        int wrong = grammar(tokens, forms, lines);
        if (wrong >= 0) {
            fault = 1;
            place = wrong;
            return -1;
        }
        TreeMap<Integer, Integer> faults = new TreeMap<>();
        Map<String, Integer> told = new HashMap<>();
        int highest = 0;
        for (List<Token> line : lines) {
            String verb = line.get(0).text;
            String counted = sort == 0 ? verb : "any";
            told.merge(counted, 1, Integer::sum);
            int most = sort == 1 ? 40 : sort == 2 ? 8 : verb.equals("route") ? 12 : verb.equals("serve") ? 6 : 999;
            if (told.get(counted) > most) {
                faults.merge(line.get(0).place, 3, Math::min);
            }
            String[] form = forms.get(verb).split(" ");
            for (int i = 0; i < form.length; i++) {
                Token t = line.get(i + 1);
                boolean good;
                if (form[i].equals("W")) {
                    good = t.text.length() <= 4;
                } else {
                    int v = Integer.parseInt(t.text);
                    if (form[i].equals("N") || form[i].equals("M")) {
                        highest = Math.max(highest, v);
                        good = v <= 5 && (form[i].equals("N") || v != Integer.parseInt(line.get(1).text));
                    } else {
                        String[] range = form[i].split(":");
                        good = v >= Integer.parseInt(range[0]) && v <= Integer.parseInt(range[1]);
                    }
                }
                if (!good) {
                    faults.merge(t.place, 2, Math::min);
                }
            }
        }
        if (!faults.isEmpty()) {
            fault = faults.firstEntry().getValue();
            place = faults.firstKey();
            return -1;
        }
        if (sort == 0) {
            Net net = netOf(lines);
            if (highest >= net.nodes) {
                fault = 4;
                place = tokens.get(tokens.size() - 1).place;
                return -1;
            }
            return put(nets, at, net);
        }
        return sort == 1 ? put(runs, at, runOf(lines)) : put(logs, at, logOf(lines));
    }

    private static <T> int put(List<T> list, int at, T x) {
        if (at == -1) {
            list.add(x);
            return list.size() - 1;
        }
        list.set(at, x);
        return at;
    }

    private static int grammar(List<Token> tokens, Map<String, String> forms, List<List<Token>> lines) {
        int i = 0;
        while (tokens.get(i).type != 'E') {
            Token verb = tokens.get(i++);
            if (verb.type != 'W' || !forms.containsKey(verb.text)) {
                return verb.place;
            }
            List<Token> line = new ArrayList<>();
            line.add(verb);
            for (String part : (forms.get(verb.text) + " ;").split(" ")) {
                Token t = tokens.get(i++);
                char due = part.equals("W") ? 'W' : part.equals(";") ? ';' : 'N';
                if (t.type != due) {
                    return t.place;
                }
                line.add(t);
            }
            lines.add(line);
        }
        return -1;
    }

    private static int number(List<Token> line, int i) {
        return Integer.parseInt(line.get(i).text);
    }

    private static Net netOf(List<List<Token>> lines) {
        Net net = new Net();
        for (List<Token> l : lines) {
            switch (l.get(0).text) {
                case "nodes" -> net.nodes = number(l, 1);
                case "life" -> net.life = number(l, 1);
                case "room" -> net.room[number(l, 1)] = number(l, 2);
                case "link" -> {
                    if (net.link(number(l, 1), number(l, 2)) == null) {
                        net.links.add(new Link(number(l, 1), number(l, 2)));
                    }
                    net.link(number(l, 1), number(l, 2)).delay = number(l, 3);
                }
                case "route" -> net.routes.add(new Route(number(l, 1), l.get(2).text, number(l, 3), number(l, 4)));
                default -> net.serves.add(new Serve(number(l, 1), l.get(2).text, number(l, 3)));
            }
        }
        return net;
    }

    private static List<Deed> runOf(List<List<Token>> lines) {
        List<Deed> run = new ArrayList<>();
        for (List<Token> l : lines) {
            String verb = l.get(0).text;
            switch (verb) {
                case "ask", "fresh" -> run.add(new Deed(verb, number(l, 1), l.get(2).text, -1));
                case "wait" -> run.add(new Deed(verb, number(l, 1), null, -1));
                default -> run.add(new Deed(verb, number(l, 1), null, number(l, 2)));
            }
        }
        return run;
    }

    private static List<Fact> logOf(List<List<Token>> lines) {
        List<Fact> log = new ArrayList<>();
        for (List<Token> l : lines) {
            log.add(new Fact(number(l, 1), l.get(0).text.equals("got") ? number(l, 2) : -1));
        }
        return log;
    }

    // ---- names --------------------------------------------------------------------------------

    static int code(String name) {
        int n = 0;
        for (char c : name.toCharArray()) {
            n = n * 27 + (c - 'a' + 1);
        }
        return n;
    }

    static String nameOf(int code) {
        if (code <= 0) {
            return null;
        }
        StringBuilder s = new StringBuilder();
        for (int n = code; n > 0; n /= 27) {
            if (n % 27 == 0) {
                return null;
            }
            s.insert(0, (char) ('a' + n % 27 - 1));
        }
        return s.length() > 4 ? null : s.toString();
    }

    // ---- a run --------------------------------------------------------------------------------

    static final class Data {
        String name;
        int until;
        int server;
        int source;
        boolean store;

        Data(String name, int until, int server, int source, boolean store) {
            this.name = name;
            this.until = until;
            this.server = server;
            this.source = source;
            this.store = store;
        }
    }

    record Nack(String name, int wish, Nack cause, String root, int where) {
        int depth() {
            return cause == null ? 1 : cause.depth() + 1;
        }
    }

    record Interest(String name, int wish, int nonce) { }

    record Packet(int from, int to, int comes, Object load) { }

    static final class Pending {
        String name;
        int wish;
        Set<Integer> nodes = new TreeSet<>();
        List<Integer> asks = new ArrayList<>();
        Set<Integer> nonces = new LinkedHashSet<>();
        int out = -1;
        Set<Integer> tried = new TreeSet<>();
        int sent;
        int ends;
    }

    static final class Node {
        List<Pending> entries = new ArrayList<>();
        List<Data> store = new ArrayList<>();
        Set<Integer> dead = new TreeSet<>();
        Map<Integer, Integer> measured = new TreeMap<>();

        Pending find(String name, int wish) {
            for (Pending p : entries) {
                if (p.name.equals(name) && p.wish == wish) {
                    return p;
                }
            }
            return null;
        }
    }

    static final class Asked {
        int when;
        int result = 0;
        int minute = -1;
        Data data;
        Nack nack;
    }

    static final class Sim {
        final Net net;
        final Link away;
        final Node[] node;
        final Set<Link> down = new LinkedHashSet<>();
        final Map<Integer, Asked> asked = new TreeMap<>();
        List<Packet> air = new ArrayList<>();
        int now = 0;
        int sent;
        int hits;
        int joined;
        int loops;
        int dropped;
        int missed;
        int widest;

        Sim(Net net, Link away) {
            this.net = net;
            this.away = away;
            node = new Node[net.nodes];
            for (int i = 0; i < net.nodes; i++) {
                node[i] = new Node();
            }
        }

        boolean up(int a, int b) {
            Link l = net.link(a, b);
            return l != null && l != away && !down.contains(l);
        }

        int entries() {
            int n = 0;
            for (Node x : node) {
                n += x.entries.size();
            }
            return n;
        }

        boolean can(Deed d) {
            if (d.asks()) {
                return net.has(d.first);
            }
            if (d.verb.equals("wait")) {
                return now + d.first <= 99;
            }
            Link l = net.link(d.first, d.second);
            if (l == null || l == away) {
                return false;
            }
            return down.contains(l) == d.verb.equals("mend");
        }

        int play(List<Deed> run, int n) {
            for (int k = 0; k < n; k++) {
                Deed d = run.get(k);
                if (!can(d)) {
                    return k;
                }
                if (d.asks()) {
                    ask(k, d.first, d.name, d.verb.equals("fresh") ? 1 : 0);
                } else if (d.verb.equals("wait")) {
                    pass(d.first);
                } else if (d.verb.equals("cut")) {
                    down.add(net.link(d.first, d.second));
                } else {
                    down.remove(net.link(d.first, d.second));
                }
                widest = Math.max(widest, entries());
            }
            return n;
        }

        void ask(int nonce, int at, String name, int wish) {
            Asked a = new Asked();
            a.when = now;
            asked.put(nonce, a);
            interest(at, -1, new Interest(name, wish, nonce));
        }

        void pass(int minutes) {
            for (int i = 0; i < minutes; i++) {
                now++;
                for (Node x : node) {
                    for (Pending p : new ArrayList<>(x.entries)) {
                        if (p.ends == now) {
                            x.entries.remove(p);
                            x.dead.addAll(p.nonces);
                            x.measured.put(p.out, net.life);
                            for (int k : p.asks) {
                                asked.get(k).result = 3;
                                asked.get(k).minute = now;
                            }
                        }
                    }
                }
                List<Packet> before = air;
                air = new ArrayList<>();
                List<Packet> due = new ArrayList<>();
                for (Packet p : before) {
                    (p.comes == now ? due : air).add(p);
                }
                for (Packet p : due) {
                    if (p.load instanceof Interest i2) {
                        interest(p.to, p.from, i2);
                    } else if (p.load instanceof Data d) {
                        data(p.to, p.from, d);
                    } else {
                        nack(p.to, p.from, (Nack) p.load);
                    }
                }
            }
        }

        void send(int from, int to, Object load) {
            if (!up(from, to)) {
                missed++;
                return;
            }
            sent++;
            air.add(new Packet(from, to, now + net.link(from, to).delay, load));
        }

        void hand(int k, Object load) {
            Asked a = asked.get(k);
            a.minute = now;
            if (load instanceof Data d) {
                a.result = 1;
                a.data = d;
            } else {
                a.result = 2;
                a.nack = (Nack) load;
            }
        }

        void give(int at, int from, int nonce, Object load) {
            if (from < 0) {
                hand(nonce, load);
            } else {
                send(at, from, load);
            }
        }

        void interest(int at, int from, Interest i) {
            Node x = node[at];
            Pending p = x.find(i.name, i.wish);
            if (x.dead.contains(i.nonce) || p != null && p.nonces.contains(i.nonce)) {
                loops++;
                give(at, from, i.nonce, new Nack(i.name, i.wish, null, "loop", at));
                return;
            }
            for (Data d : x.store) {
                if (d.name.equals(i.name) && (i.wish == 0 || now <= d.until)) {
                    hits++;
                    x.store.remove(d);
                    x.store.add(d);
                    give(at, from, i.nonce, new Data(d.name, d.until, d.server, at, true));
                    return;
                }
            }
            Serve best = null;
            for (Serve s : net.serves) {
                if (s.node == at && i.name.startsWith(s.word)
                    && (best == null || s.word.length() > best.word.length())) {
                    best = s;
                }
            }
            if (best != null) {
                give(at, from, i.nonce, new Data(i.name, now + best.fresh, at, at, false));
                return;
            }
            boolean fresh = p == null;
            if (fresh) {
                p = new Pending();
                p.name = i.name;
                p.wish = i.wish;
                p.ends = now + net.life;
            } else {
                joined++;
            }
            p.nonces.add(i.nonce);
            if (from < 0) {
                p.asks.add(i.nonce);
            } else {
                p.nodes.add(from);
            }
            if (fresh) {
                x.entries.add(p);
                if (!on(at, p)) {
                    x.entries.remove(p);
                    give(at, from, i.nonce, new Nack(i.name, i.wish, null, "no way", at));
                }
            }
        }

        boolean on(int at, Pending p) {
            Set<Integer> not = new TreeSet<>(p.nodes);
            not.addAll(p.tried);
            int to = choose(at, p.name, not);
            if (to < 0) {
                return false;
            }
            p.out = to;
            p.tried.add(to);
            p.sent = now;
            send(at, to, new Interest(p.name, p.wish, p.nonces.iterator().next()));
            return true;
        }

        int choose(int at, String name, Set<Integer> not) {
            int best = -1;
            int least = 0;
            for (Route r : matching(net, at, name)) {
                if (!up(at, r.to) || not.contains(r.to)) {
                    continue;
                }
                int c = node[at].measured.getOrDefault(r.to, r.cost);
                if (best < 0 || c < least || c == least && r.to < best) {
                    best = r.to;
                    least = c;
                }
            }
            return best;
        }

        void data(int at, int from, Data d) {
            Node x = node[at];
            List<Pending> mine = new ArrayList<>();
            for (Pending p : x.entries) {
                if (p.name.equals(d.name) && (p.wish == 0 || now <= d.until)) {
                    mine.add(p);
                }
            }
            if (mine.isEmpty()) {
                dropped++;
                return;
            }
            if (mine.get(0).out == from) {
                x.measured.put(from, now - mine.get(0).sent);
            }
            if (net.room[at] > 0) {
                x.store.removeIf(o -> o.name.equals(d.name));
                x.store.add(d);
                if (x.store.size() > net.room[at]) {
                    x.store.remove(0);
                }
            }
            for (Pending p : mine) {
                finish(at, p, d);
            }
        }

        void nack(int at, int from, Nack n) {
            Pending p = node[at].find(n.name, n.wish);
            if (p == null || p.out != from || on(at, p)) {
                return;
            }
            finish(at, p, new Nack(n.name, n.wish, n, n.root, n.where));
        }

        void finish(int at, Pending p, Object load) {
            for (int n : p.nodes) {
                send(at, n, load);
            }
            for (int k : p.asks) {
                hand(k, load);
            }
            node[at].dead.addAll(p.nonces);
            node[at].entries.remove(p);
        }

        int look(int what) {
            if (what == 0) {
                return now;
            }
            if (what == 1) {
                return air.size();
            }
            if (what == 2) {
                return entries();
            }
            if (what == 3) {
                return down.size();
            }
            for (int a = 0; a < net.nodes; a++) {
                if (what == 10 + a) {
                    return node[a].entries.size();
                }
                if (what == 20 + a) {
                    return node[a].store.size();
                }
                if (what == 30 + a) {
                    return node[a].dead.size();
                }
                for (int b = 0; b < net.nodes; b++) {
                    if (what == 100 + 10 * a + b) {
                        return node[a].measured.getOrDefault(b, -1);
                    }
                }
            }
            return -2;
        }
    }

    static List<Route> matching(Net net, int at, String name) {
        for (int n = name.length(); n > 0; n--) {
            List<Route> found = new ArrayList<>();
            for (Route r : net.routes) {
                if (r.node == at && r.word.equals(name.substring(0, n))) {
                    found.add(r);
                }
            }
            if (!found.isEmpty()) {
                return found;
            }
        }
        return new ArrayList<>();
    }

    // ---- the questions ------------------------------------------------------------------------

    private Net n(int i) {
        return i < 0 || i >= nets.size() ? null : nets.get(i);
    }

    private List<Deed> r(int i) {
        return i < 0 || i >= runs.size() ? null : runs.get(i);
    }

    private List<Fact> l(int i) {
        return i < 0 || i >= logs.size() ? null : logs.get(i);
    }

    int net(int net, int what) {
        Net n = n(net);
        if (n == null) {
            return -2;
        }
        Map<Integer, Integer> answers = new HashMap<>();
        answers.put(0, n.nodes);
        answers.put(1, n.life);
        answers.put(2, n.links.size());
        answers.put(3, n.routes.size());
        answers.put(4, n.serves.size());
        for (int a = 0; a < n.nodes; a++) {
            answers.put(10 + a, n.room[a]);
            for (int b = 0; b < n.nodes; b++) {
                answers.put(100 + 10 * a + b, n.link(a, b) == null ? -1 : n.link(a, b).delay);
            }
        }
        for (int k = 0; k < n.routes.size(); k++) {
            answers.put(200 + k, n.routes.get(k).node);
            answers.put(220 + k, code(n.routes.get(k).word));
            answers.put(240 + k, n.routes.get(k).to);
            answers.put(260 + k, n.routes.get(k).cost);
        }
        for (int k = 0; k < n.serves.size(); k++) {
            answers.put(300 + k, n.serves.get(k).node);
            answers.put(320 + k, code(n.serves.get(k).word));
            answers.put(340 + k, n.serves.get(k).fresh);
        }
        return answers.getOrDefault(what, -2);
    }

    int deed(int run, int k, int what) {
        List<Deed> r = r(run);
        if (r == null || k < -1 || k >= r.size() || what < 0 || what > 2 || k == -1 && what != 0) {
            return -2;
        }
        if (k == -1) {
            return r.size();
        }
        Deed d = r.get(k);
        if (what == 0) {
            return List.of("ask", "fresh", "wait", "cut", "mend").indexOf(d.verb);
        }
        return what == 1 ? d.first : d.name != null ? code(d.name) : d.second;
    }

    int stop(int net, int run) {
        return n(net) == null || r(run) == null ? -1 : new Sim(n(net), null).play(r(run), r(run).size());
    }

    private Sim behind(int net, int run, int n) {
        if (n(net) == null || r(run) == null || n < 0 || n > stop(net, run)) {
            return null;
        }
        Sim s = new Sim(n(net), null);
        s.play(r(run), n);
        return s;
    }

    int state(int net, int run, int n, int what) {
        Sim s = behind(net, run, n);
        return s == null ? -2 : s.look(what);
    }

    int stored(int net, int run, int n, int node, int i, int what) {
        Sim s = behind(net, run, n);
        if (s == null || !s.net.has(node) || i < 0 || i >= s.node[node].store.size()) {
            return -1;
        }
        Data d = s.node[node].store.get(i);
        return what == 0 ? code(d.name) : what == 1 ? d.until : what == 2 ? d.server : -1;
    }

    int entry(int net, int run, int n, int node, int i, int what) {
        Sim s = behind(net, run, n);
        if (s == null || !s.net.has(node) || i < 0 || i >= s.node[node].entries.size()) {
            return -1;
        }
        Pending p = s.node[node].entries.get(i);
        return switch (what) {
            case 0 -> code(p.name);
            case 1 -> p.wish;
            case 2 -> bits(p.nodes);
            case 3 -> p.asks.size();
            case 4 -> p.out;
            case 5 -> bits(p.tried);
            case 6 -> p.sent;
            case 7 -> p.ends;
            default -> -1;
        };
    }

    static int bits(Iterable<Integer> numbers) {
        int bits = 0;
        for (int x : numbers) {
            bits |= 1 << x;
        }
        return bits;
    }

    private static int of(Asked a, int what) {
        return switch (what) {
            case 0 -> a.result;
            case 1 -> a.minute;
            case 2 -> a.data == null ? -1 : a.data.source;
            case 3 -> a.data == null ? -1 : a.data.store ? 1 : 0;
            case 4 -> a.nack == null ? -1 : a.nack.depth();
            case 5 -> a.nack == null ? -1 : a.nack.root.equals("loop") ? 2 : 1;
            case 6 -> a.nack == null ? -1 : a.nack.where;
            default -> -2;
        };
    }

    int why(int net, int run, int k, int what) {
        Sim s = behind(net, run, stop(net, run));
        return s == null || !s.asked.containsKey(k) ? -2 : of(s.asked.get(k), what);
    }

    int alone(int net, int node, int name, int wish, int what) {
        if (n(net) == null || !n(net).has(node) || nameOf(name) == null || wish < 0 || wish > 1) {
            return -2;
        }
        Sim s = new Sim(n(net), null);
        s.ask(0, node, nameOf(name), wish);
        s.pass(99);
        return what == 2 ? s.sent : what == 0 || what == 1 ? of(s.asked.get(0), what) : -2;
    }

    int table(int net, int node, int what) {
        if (n(net) == null || !n(net).has(node)) {
            return -1;
        }
        Set<String> rows = new TreeSet<>();
        int routes = 0;
        for (Route r : n(net).routes) {
            if (r.node == node) {
                routes++;
                for (int i = 1; i <= r.word.length(); i++) {
                    rows.add(r.word.substring(0, i));
                }
            }
        }
        return what == 0 ? rows.size() : what == 1 ? routes : -1;
    }

    int ways(int net, int node, int name, boolean letters) {
        if (n(net) == null || !n(net).has(node) || nameOf(name) == null) {
            return -1;
        }
        Set<Integer> to = new TreeSet<>();
        int longest = 0;
        for (Route r : matching(n(net), node, nameOf(name))) {
            longest = r.word.length();
            if (n(net).link(node, r.to) != null) {
                to.add(r.to);
            }
        }
        return letters ? longest : bits(to);
    }

    int trail(int net, int node, int name, int k) {
        Net n = n(net);
        if (n == null || !n.has(node) || nameOf(name) == null) {
            return -1;
        }
        List<Integer> trail = new ArrayList<>();
        int at = node;
        int ending;
        while (true) {
            boolean was = trail.contains(at);
            Set<Integer> in = new TreeSet<>();
            if (!trail.isEmpty()) {
                in.add(trail.get(trail.size() - 1));
            }
            trail.add(at);
            if (was) {
                ending = 3;
                break;
            }
            final int here = at;
            if (n.serves.stream().anyMatch(s -> s.node == here && nameOf(name).startsWith(s.word))) {
                ending = 1;
                break;
            }
            at = new Sim(n, null).choose(at, nameOf(name), in);
            if (at < 0) {
                ending = 2;
                break;
            }
        }
        return k == -1 ? trail.size() : k == 20 ? ending : k >= 0 && k < trail.size() ? trail.get(k) : -1;
    }

    int far(int net, int a, int b) {
        Net n = n(net);
        if (n == null || !n.has(a) || !n.has(b)) {
            return -1;
        }
        int best = walk(n, a, b, new TreeSet<>());
        return best == Integer.MAX_VALUE ? -1 : best;
    }

    private static int walk(Net n, int a, int b, Set<Integer> seen) {
        if (a == b) {
            return 0;
        }
        int best = Integer.MAX_VALUE;
        seen.add(a);
        for (int c = 0; c < n.nodes; c++) {
            if (n.link(a, c) != null && !seen.contains(c)) {
                int rest = walk(n, c, b, seen);
                if (rest != Integer.MAX_VALUE) {
                    best = Math.min(best, rest + n.link(a, c).delay);
                }
            }
        }
        seen.remove(a);
        return best;
    }

    int fact(int log, int k, int what) {
        List<Fact> l = l(log);
        if (l == null || k < -1 || k >= l.size() || what < 0 || what > 1 || k == -1 && what != 0) {
            return -2;
        }
        return k == -1 ? l.size() : what == 0 ? l.get(k).deed : l.get(k).minute;
    }

    int fits(int net, int run, int log, int what) {
        if (n(net) == null || r(run) == null || l(log) == null) {
            return -2;
        }
        List<Integer> fitting = new ArrayList<>();
        List<Sim> sims = new ArrayList<>();
        for (int k = -1; k < n(net).links.size(); k++) {
            Sim s = new Sim(n(net), k < 0 ? null : n(net).links.get(k));
            s.play(r(run), r(run).size());
            boolean all = true;
            for (Fact f : l(log)) {
                Asked a = s.asked.get(f.deed);
                boolean got = a != null && a.result == 1;
                all &= f.minute < 0 ? !got : got && a.minute == f.minute;
            }
            if (all) {
                fitting.add(k);
                sims.add(s);
            }
        }
        if (what == 0) {
            return fitting.size();
        }
        if (what != 1) {
            return what >= 10 && what - 10 < fitting.size() ? fitting.get(what - 10) : -2;
        }
        int best = -1;
        long least = Long.MAX_VALUE;
        for (int k = 0; k < r(run).size(); k++) {
            final int ask = k;
            if (!r(run).get(k).asks() || sims.isEmpty()) {
                continue;
            }
            long got = sims.stream().filter(s -> s.asked.containsKey(ask) && s.asked.get(ask).result == 1).count();
            long greater = Math.max(got, sims.size() - got);
            if (greater < least) {
                least = greater;
                best = k;
            }
        }
        return best;
    }

    int drawn(int net, int seed, int n, int what) {
        Net of = n(net);
        if (of == null || n < 0 || n > 60) {
            return -2;
        }
        Sim s = new Sim(of, null);
        long[] x = {seed & 0xffffffffL};
        for (int t = 0; t < n; t++) {
            int kind = below(x, 10);
            if (kind < 5 && !of.serves.isEmpty()) {
                int node = below(x, of.nodes);
                String name = of.serves.get(below(x, of.serves.size())).word;
                int more = below(x, 3);
                if (more != 0 && name.length() < 4) {
                    name += more == 1 ? "a" : "b";
                }
                s.ask(t, node, name, kind == 4 ? 1 : 0);
            } else if (kind >= 5 && kind < 9) {
                int minutes = 1 + below(x, 5);
                if (s.now + minutes <= 99) {
                    s.pass(minutes);
                }
            } else if (kind == 9 && !of.links.isEmpty()) {
                Link l = of.links.get(below(x, of.links.size()));
                if (!s.down.remove(l)) {
                    s.down.add(l);
                }
            }
        }
        return s.look(what);
    }

    private static int below(long[] x, int n) {
        x[0] = (x[0] * 1103515245L + 12345L) & 0xffffffffL;
        return (int) ((x[0] >> 16) % n);
    }

    int after(int net, int run, int what) {
        Sim s = behind(net, run, stop(net, run));
        if (s == null || what < 0 || what > 8) {
            return -2;
        }
        int sum = 0;
        int number = 0;
        for (Asked a : s.asked.values()) {
            if (a.result == 1) {
                sum += a.minute - a.when;
                number++;
            }
        }
        int common = 1;
        for (int g = 1; g <= number; g++) {
            if (sum % g == 0 && number % g == 0) {
                common = g;
            }
        }
        return switch (what) {
            case 0 -> s.sent;
            case 1 -> s.hits;
            case 2 -> s.joined;
            case 3 -> s.loops;
            case 4 -> s.dropped;
            case 5 -> s.missed;
            case 6 -> s.widest;
            default -> number == 0 ? -1 : (what == 7 ? sum : number) / common;
        };
    }

    int edges(int net, int what) {
        Net n = n(net);
        if (n == null || what < 0 || what > 4) {
            return -1;
        }
        Set<Integer> found = new TreeSet<>();
        for (int i = 0; i < 12; i++) {
            final int at = i;
            boolean is = switch (what) {
                case 0 -> n.serves.stream().anyMatch(s -> s.node == at);
                case 1 -> n.links.stream().filter(l -> l.a == at || l.b == at).count() == 1;
                case 2 -> i < n.routes.size() && n.link(n.routes.get(i).node, n.routes.get(i).to) == null;
                case 3 -> i < n.routes.size() && n.routes.subList(0, i).stream().anyMatch(q ->
                    q.node == n.routes.get(at).node && q.to == n.routes.get(at).to
                        && q.word.equals(n.routes.get(at).word));
                default -> i < n.serves.size() && n.serves.stream().anyMatch(q ->
                    q != n.serves.get(at) && q.node == n.serves.get(at).node
                        && n.serves.get(at).word.startsWith(q.word));
            };
            if (is) {
                found.add(i);
            }
        }
        return bits(found);
    }
}
