import java.util.Arrays;

/**
 * A network in which names are asked for: nets, runs and logs are told as texts,
 * and what a run of a net brings is worked out anew for each question.
 */
public final class AskedNames {

    public static final int NONE = -1;

    private static final int NO_SUCH = -2;

    private static final int SORTS = 3;
    private static final int SORT_NET = 0;
    private static final int SORT_RUN = 1;
    private static final int SORT_LOG = 2;
    private static final int TEXTS = 2;
    private static final int IMAGES = 3;

    private static final int TAPE = 600;
    private static final int FED = 20;
    private static final int NODES = 6;
    private static final int LINKS = 15;
    private static final int ROUTES = 12;
    private static final int SERVES = 6;
    private static final int ROOM = 4;
    private static final int DEEDS = 40;
    private static final int DRAWS = 60;
    private static final int FACTS = 8;
    private static final int LAST_MINUTE = 99;

    private static final int BASE = 27;
    private static final int LETTERS = 4;
    private static final int FOUR_LETTERS = 27 * 27 * 27;

    private static final int ASK = 0;
    private static final int FRESH = 1;
    private static final int WAIT = 2;
    private static final int MEND = 4;

    private static final int ANY = 0;
    private static final int FRESH_ALONE = 1;

    private static final int NOTHING = 0;
    private static final int GOT = 1;
    private static final int REFUSED = 2;
    private static final int RAN_OUT = 3;

    private static final int NO_WAY = 1;
    private static final int LOOP = 2;

    private static final int SENT = 0;
    private static final int HITS = 1;
    private static final int JOINED = 2;
    private static final int LOOPS = 3;
    private static final int DROPPED = 4;
    private static final int MISSED = 5;
    private static final int WIDEST = 6;
    private static final int TALLIES = 7;

    private final Told told = new Told();
    private final Told[] images = {new Told(), new Told(), new Told()};
    private final boolean[] taken = new boolean[IMAGES];
    private final Reader reader = new Reader();
    private final Course course = new Course();
    private final int[] path = new int[NODES + 1];
    private final int[] fitted = new int[LINKS + 1];
    private final int[] gotBy = new int[DEEDS];

    public AskedNames() {
    }

    public int feed(int a, int b, int c, int d, int e) {
        if (told.length > TAPE - FED) {
            return NONE;
        }
        told.append(a);
        told.append(b);
        told.append(c);
        told.append(d);
        told.append(e);
        return told.length;
    }

    public int end(int n) {
        if (n < 0 || n > told.length) {
            return NONE;
        }
        told.length = n;
        return n;
    }

    public int text(int sort, int at) {
        // The tape is taken even where there is no place for its text.
        int length = told.length;
        told.length = 0;
        told.fault = 0;
        told.place = NONE;
        if (sort < 0 || sort >= SORTS) {
            return NO_SUCH;
        }
        int have = told.counts[sort];
        boolean further = at == NONE && have < TEXTS;
        boolean instead = at >= 0 && at < have;
        if (!further && !instead) {
            return NO_SUCH;
        }
        reader.read(told.tape, length, sort);
        told.fault = reader.fault;
        told.place = reader.place;
        if (reader.fault != 0) {
            return NONE;
        }
        int number = further ? have : at;
        told.put(sort, number, reader);
        return number;
    }

    public int fault(int what) {
        if (what == 0) {
            return told.fault;
        }
        return what == 1 ? told.place : NONE;
    }

    public int net(int net, int what) {
        Net n = netAt(net);
        if (n == null) {
            return NO_SUCH;
        }
        switch (what) {
            case 0:
                return n.nodes;
            case 1:
                return n.life;
            case 2:
                return n.links;
            case 3:
                return n.routes;
            case 4:
                return n.serves;
            default:
                break;
        }
        if (what >= 300) {
            return n.ofServe(what - 300);
        }
        if (what >= 200) {
            return n.ofRoute(what - 200);
        }
        if (what >= 100) {
            return n.ofPair(what - 100);
        }
        return what >= 10 && what - 10 < n.nodes ? n.room[what - 10] : NO_SUCH;
    }

    public int deed(int run, int k, int what) {
        Run r = runAt(run);
        if (r == null) {
            return NO_SUCH;
        }
        if (k == NONE) {
            return what == 0 ? r.deeds : NO_SUCH;
        }
        if (k < 0 || k >= r.deeds) {
            return NO_SUCH;
        }
        switch (what) {
            case 0:
                return r.kind[k];
            case 1:
                return r.first[k];
            case 2:
                return r.second[k];
            default:
                return NO_SUCH;
        }
    }

    public int stop(int net, int run) {
        Net n = netAt(net);
        Run r = runAt(run);
        if (n == null || r == null) {
            return NONE;
        }
        return course.replay(n, r, r.deeds, NONE);
    }

    public int state(int net, int run, int n, int what) {
        Net of = netAt(net);
        Run r = runAt(run);
        if (of == null || r == null || n < 0 || n > r.deeds) {
            return NO_SUCH;
        }
        int reached = course.replay(of, r, n, NONE);
        return reached < n ? NO_SUCH : course.look(what);
    }

    public int stored(int net, int run, int n, int node, int i, int what) {
        Net of = netAt(net);
        Run r = runAt(run);
        if (of == null || r == null || n < 0 || n > r.deeds || !of.hasNode(node)) {
            return NONE;
        }
        int reached = course.replay(of, r, n, NONE);
        Store store = course.stores[node];
        if (reached < n || i < 0 || i >= store.size) {
            return NONE;
        }
        switch (what) {
            case 0:
                return store.name[i];
            case 1:
                return store.until[i];
            case 2:
                return store.server[i];
            default:
                return NONE;
        }
    }

    public int entry(int net, int run, int n, int node, int i, int what) {
        Net of = netAt(net);
        Run r = runAt(run);
        if (of == null || r == null || n < 0 || n > r.deeds || !of.hasNode(node)) {
            return NONE;
        }
        int reached = course.replay(of, r, n, NONE);
        Entry e = reached < n ? null : course.entryAt(node, i);
        return e == null ? NONE : e.look(what);
    }

    public int why(int net, int run, int k, int what) {
        Net n = netAt(net);
        Run r = runAt(run);
        if (n == null || r == null || k < 0 || k >= r.deeds || !r.asks(k)) {
            return NO_SUCH;
        }
        int reached = course.replay(n, r, r.deeds, NONE);
        return k >= reached ? NO_SUCH : course.fates[k].look(what);
    }

    public int alone(int net, int node, int name, int wish, int what) {
        Net n = netAt(net);
        if (n == null || !n.hasNode(node) || !isName(name)) {
            return NO_SUCH;
        }
        if (wish != ANY && wish != FRESH_ALONE || what < 0 || what > 2) {
            return NO_SUCH;
        }
        course.askAlone(n, node, name, wish);
        return what == 2 ? course.tally[SENT] : course.fates[0].look(what);
    }

    public int table(int net, int node, int what) {
        Net n = netAt(net);
        if (n == null || !n.hasNode(node)) {
            return NONE;
        }
        if (what == 0) {
            return n.rowsAt(node);
        }
        return what == 1 ? n.routesAt(node) : NONE;
    }

    public int ways(int net, int node, int name, boolean letters) {
        Net n = netAt(net);
        if (n == null || !n.hasNode(node) || !isName(name)) {
            return NONE;
        }
        int word = n.routed(node, name);
        return letters ? lettersOf(word) : n.waysFor(node, word);
    }

    public int trail(int net, int node, int name, int k) {
        Net n = netAt(net);
        if (n == null || !n.hasNode(node) || !isName(name)) {
            return NONE;
        }
        course.begin(n, NONE);
        int seen = 0;
        int ahead = 0;
        int at = node;
        int size = 0;
        int ending = 0;
        // Each turn but the last adds a node that was not in the trail, so seven are enough.
        for (int turn = 0; turn < path.length && ending == 0; turn++) {
            path[turn] = at;
            size = turn + 1;
            int next = course.bestWay(at, name, ahead);
            if ((seen & 1 << at) != 0) {
                ending = 3;
            } else if (n.serving(at, name) != NONE) {
                ending = 1;
            } else if (next == NONE) {
                ending = 2;
            } else {
                seen |= 1 << at;
                ahead = 1 << at;
                at = next;
            }
        }
        if (k == NONE) {
            return size;
        }
        if (k == 20) {
            return ending;
        }
        return k >= 0 && k < size ? path[k] : NONE;
    }

    public int far(int net, int a, int b) {
        Net n = netAt(net);
        if (n == null || !n.hasNode(a) || !n.hasNode(b)) {
            return NONE;
        }
        Arrays.fill(path, NONE);
        path[a] = 0;
        for (int round = 1; round < n.nodes; round++) {
            for (int k = 0; k < n.links; k++) {
                shorten(n.linkA[k], n.linkB[k], n.delay[k]);
                shorten(n.linkB[k], n.linkA[k], n.delay[k]);
            }
        }
        return path[b];
    }

    public int fact(int log, int k, int what) {
        Log l = logAt(log);
        if (l == null) {
            return NO_SUCH;
        }
        if (k == NONE) {
            return what == 0 ? l.facts : NO_SUCH;
        }
        if (k < 0 || k >= l.facts) {
            return NO_SUCH;
        }
        if (what == 0) {
            return l.of[k];
        }
        return what == 1 ? l.minute[k] : NO_SUCH;
    }

    public int fits(int net, int run, int log, int what) {
        Net n = netAt(net);
        Run r = runAt(run);
        Log l = logAt(log);
        if (n == null || r == null || l == null || what < 0 || what > 1 && what < 10) {
            return NO_SUCH;
        }
        int fitting = 0;
        Arrays.fill(gotBy, 0);
        for (int link = NONE; link < n.links; link++) {
            int reached = course.replay(n, r, r.deeds, link);
            if (fitting < fitted.length && agrees(r, l, reached)) {
                fitted[fitting] = link;
                fitting++;
                noteGot(r, reached);
            }
        }
        if (what == 0) {
            return fitting;
        }
        if (what == 1) {
            return tellingAsk(r, fitting);
        }
        return what >= 10 && what - 10 < fitting ? fitted[what - 10] : NO_SUCH;
    }

    public int drawn(int net, int seed, int n, int what) {
        Net of = netAt(net);
        if (of == null || n < 0 || n > DRAWS) {
            return NO_SUCH;
        }
        course.draw(of, seed, n);
        return course.look(what);
    }

    public int after(int net, int run, int what) {
        Net n = netAt(net);
        Run r = runAt(run);
        if (n == null || r == null || what < 0 || what > 8) {
            return NO_SUCH;
        }
        int reached = course.replay(n, r, r.deeds, NONE);
        return what < TALLIES ? course.tally[what] : mean(r, reached, what == 7);
    }

    public int edges(int net, int what) {
        Net n = netAt(net);
        if (n == null) {
            return NONE;
        }
        switch (what) {
            case 0:
                return n.serversAsBits();
            case 1:
                return n.leavesAsBits();
            case 2:
                return n.blindAsBits();
            case 3:
                return n.hiddenAsBits();
            case 4:
                return n.servedAsBits();
            default:
                return NONE;
        }
    }

    public int count(int sort) {
        return sort < 0 || sort >= SORTS ? NO_SUCH : told.counts[sort];
    }

    public boolean image(int k) {
        if (k < 0 || k >= IMAGES) {
            return false;
        }
        images[k].copy(told);
        taken[k] = true;
        return true;
    }

    public boolean again(int k) {
        if (k < 0 || k >= IMAGES || !taken[k]) {
            return false;
        }
        told.copy(images[k]);
        return true;
    }

    private Net netAt(int i) {
        return i < 0 || i >= told.counts[SORT_NET] ? null : told.nets[i];
    }

    private Run runAt(int i) {
        return i < 0 || i >= told.counts[SORT_RUN] ? null : told.runs[i];
    }

    private Log logAt(int i) {
        return i < 0 || i >= told.counts[SORT_LOG] ? null : told.logs[i];
    }

    private void shorten(int from, int to, int delay) {
        if (path[from] != NONE && (path[to] == NONE || path[from] + delay < path[to])) {
            path[to] = path[from] + delay;
        }
    }

    private boolean got(Run run, int k, int reached) {
        return k < reached && run.asks(k) && course.fates[k].result == GOT;
    }

    private boolean agrees(Run run, Log log, int reached) {
        for (int i = 0; i < log.facts; i++) {
            int k = log.of[i];
            boolean has = got(run, k, reached);
            boolean is = log.minute[i] == NONE ? !has : has && course.fates[k].minute == log.minute[i];
            if (!is) {
                return false;
            }
        }
        return true;
    }

    private void noteGot(Run run, int reached) {
        for (int k = 0; k < reached; k++) {
            if (got(run, k, reached)) {
                gotBy[k]++;
            }
        }
    }

    private int tellingAsk(Run run, int fitting) {
        int best = NONE;
        int least = 0;
        for (int k = 0; k < run.deeds && fitting > 0; k++) {
            int greater = Math.max(gotBy[k], fitting - gotBy[k]);
            if (run.asks(k) && (best == NONE || greater < least)) {
                best = k;
                least = greater;
            }
        }
        return best;
    }

    private int mean(Run run, int reached, boolean upper) {
        int minutes = 0;
        int number = 0;
        for (int k = 0; k < reached; k++) {
            if (got(run, k, reached)) {
                minutes += course.fates[k].minute - course.fates[k].asked;
                number++;
            }
        }
        if (number == 0) {
            return NONE;
        }
        int common = number;
        int rest = minutes;
        // Some ten turns are enough for numbers as small as these.
        for (int turn = 0; turn < 64 && rest != 0; turn++) {
            int next = common % rest;
            common = rest;
            rest = next;
        }
        return (upper ? minutes : number) / Math.max(common, 1);
    }

    private static boolean isName(int number) {
        int rest = number;
        for (int i = 0; i < LETTERS && rest > 0; i++) {
            if (rest % BASE == 0) {
                return false;
            }
            rest = rest / BASE;
        }
        return number > 0 && rest == 0;
    }

    private static int lettersOf(int word) {
        int letters = 0;
        int rest = word;
        for (int i = 0; i < LETTERS && rest > 0; i++) {
            letters++;
            rest = rest / BASE;
        }
        return letters;
    }

    private static boolean begins(int name, int word) {
        int rest = name;
        for (int i = 0; i < LETTERS && rest > 0; i++) {
            if (rest == word) {
                return true;
            }
            rest = rest / BASE;
        }
        return false;
    }

    /** All that an image keeps. */
    private static final class Told {
        private final byte[] tape = new byte[TAPE];
        private int length = 0;
        private int fault = 0;
        private int place = NONE;
        private final int[] counts = new int[SORTS];
        private final Net[] nets = {new Net(), new Net()};
        private final Run[] runs = {new Run(), new Run()};
        private final Log[] logs = {new Log(), new Log()};

        void append(int four) {
            for (int shift = 24; shift >= 0 && length < TAPE; shift -= 8) {
                tape[length] = (byte) (four >>> shift);
                length++;
            }
        }

        void put(int sort, int number, Reader from) {
            if (sort == SORT_NET) {
                nets[number].copy(from.net);
            } else if (sort == SORT_RUN) {
                runs[number].copy(from.run);
            } else {
                logs[number].copy(from.log);
            }
            counts[sort] = Math.max(counts[sort], number + 1);
        }

        void copy(Told other) {
            System.arraycopy(other.tape, 0, tape, 0, TAPE);
            System.arraycopy(other.counts, 0, counts, 0, SORTS);
            length = other.length;
            fault = other.fault;
            place = other.place;
            for (int i = 0; i < TEXTS; i++) {
                nets[i].copy(other.nets[i]);
                runs[i].copy(other.runs[i]);
                logs[i].copy(other.logs[i]);
            }
        }
    }

    private static final class Net {
        private int nodes = 0;
        private int life = 0;
        private int links = 0;
        private int routes = 0;
        private int serves = 0;
        private final int[] room = new int[NODES];
        private final int[] linkA = new int[LINKS];
        private final int[] linkB = new int[LINKS];
        private final int[] delay = new int[LINKS];
        private final int[] linkOf = new int[NODES * NODES];
        private final int[] routeNode = new int[ROUTES];
        private final int[] routeWord = new int[ROUTES];
        private final int[] routeTo = new int[ROUTES];
        private final int[] routeCost = new int[ROUTES];
        private final int[] serveNode = new int[SERVES];
        private final int[] serveWord = new int[SERVES];
        private final int[] serveFresh = new int[SERVES];

        void clear() {
            nodes = 3;
            life = 20;
            links = 0;
            routes = 0;
            serves = 0;
            Arrays.fill(room, 2);
            Arrays.fill(linkOf, NONE);
        }

        void copy(Net other) {
            nodes = other.nodes;
            life = other.life;
            links = other.links;
            routes = other.routes;
            serves = other.serves;
            System.arraycopy(other.room, 0, room, 0, NODES);
            System.arraycopy(other.linkA, 0, linkA, 0, LINKS);
            System.arraycopy(other.linkB, 0, linkB, 0, LINKS);
            System.arraycopy(other.delay, 0, delay, 0, LINKS);
            System.arraycopy(other.linkOf, 0, linkOf, 0, NODES * NODES);
            System.arraycopy(other.routeNode, 0, routeNode, 0, ROUTES);
            System.arraycopy(other.routeWord, 0, routeWord, 0, ROUTES);
            System.arraycopy(other.routeTo, 0, routeTo, 0, ROUTES);
            System.arraycopy(other.routeCost, 0, routeCost, 0, ROUTES);
            System.arraycopy(other.serveNode, 0, serveNode, 0, SERVES);
            System.arraycopy(other.serveWord, 0, serveWord, 0, SERVES);
            System.arraycopy(other.serveFresh, 0, serveFresh, 0, SERVES);
        }

        void addLink(int a, int b, int minutes) {
            int number = linkOf[a * NODES + b];
            if (number == NONE && links < LINKS) {
                number = links;
                links++;
                linkA[number] = a;
                linkB[number] = b;
                linkOf[a * NODES + b] = number;
                linkOf[b * NODES + a] = number;
            }
            if (number != NONE) {
                delay[number] = minutes;
            }
        }

        void addRoute(int node, int word, int to, int cost) {
            if (routes < ROUTES) {
                routeNode[routes] = node;
                routeWord[routes] = word;
                routeTo[routes] = to;
                routeCost[routes] = cost;
                routes++;
            }
        }

        void addServe(int node, int word, int fresh) {
            if (serves < SERVES) {
                serveNode[serves] = node;
                serveWord[serves] = word;
                serveFresh[serves] = fresh;
                serves++;
            }
        }

        boolean hasNode(int node) {
            return node >= 0 && node < nodes;
        }

        int linkBetween(int a, int b) {
            return hasNode(a) && hasNode(b) ? linkOf[a * NODES + b] : NONE;
        }

        int ofPair(int pair) {
            int a = pair / 10;
            int b = pair % 10;
            if (!hasNode(a) || !hasNode(b)) {
                return NO_SUCH;
            }
            int number = linkOf[a * NODES + b];
            return number == NONE ? NONE : delay[number];
        }

        int ofRoute(int what) {
            int k = what % 20;
            if (k >= routes) {
                return NO_SUCH;
            }
            switch (what / 20) {
                case 0:
                    return routeNode[k];
                case 1:
                    return routeWord[k];
                case 2:
                    return routeTo[k];
                case 3:
                    return routeCost[k];
                default:
                    return NO_SUCH;
            }
        }

        int ofServe(int what) {
            int k = what % 20;
            if (k >= serves) {
                return NO_SUCH;
            }
            switch (what / 20) {
                case 0:
                    return serveNode[k];
                case 1:
                    return serveWord[k];
                case 2:
                    return serveFresh[k];
                default:
                    return NO_SUCH;
            }
        }

        /** The longest beginning of a name for which a node has routes, 0 without. */
        int routed(int node, int name) {
            int word = name;
            for (int i = 0; i < LETTERS && word > 0; i++) {
                for (int k = 0; k < routes; k++) {
                    if (routeNode[k] == node && routeWord[k] == word) {
                        return word;
                    }
                }
                word = word / BASE;
            }
            return 0;
        }

        int waysFor(int node, int word) {
            int bits = 0;
            for (int k = 0; k < routes; k++) {
                boolean leads = routeNode[k] == node && routeWord[k] == word;
                if (leads && linkBetween(node, routeTo[k]) != NONE) {
                    bits |= 1 << routeTo[k];
                }
            }
            return bits;
        }

        /** The serve by which a node answers for a name, or none. */
        int serving(int node, int name) {
            int word = name;
            for (int i = 0; i < LETTERS && word > 0; i++) {
                for (int k = 0; k < serves; k++) {
                    if (serveNode[k] == node && serveWord[k] == word) {
                        return k;
                    }
                }
                word = word / BASE;
            }
            return NONE;
        }

        int routesAt(int node) {
            int number = 0;
            for (int k = 0; k < routes; k++) {
                if (routeNode[k] == node) {
                    number++;
                }
            }
            return number;
        }

        int rowsAt(int node) {
            int rows = 0;
            for (int k = 0; k < routes; k++) {
                int row = routeNode[k] == node ? routeWord[k] : 0;
                for (int i = 0; i < LETTERS && row > 0; i++) {
                    if (!rowBefore(k, row)) {
                        rows++;
                    }
                    row = row / BASE;
                }
            }
            return rows;
        }

        private boolean rowBefore(int k, int row) {
            for (int j = 0; j < k; j++) {
                if (routeNode[j] == routeNode[k] && begins(routeWord[j], row)) {
                    return true;
                }
            }
            return false;
        }

        int serversAsBits() {
            int bits = 0;
            for (int k = 0; k < serves; k++) {
                bits |= 1 << serveNode[k];
            }
            return bits;
        }

        int leavesAsBits() {
            int bits = 0;
            for (int node = 0; node < nodes; node++) {
                int number = 0;
                for (int k = 0; k < links; k++) {
                    if (linkA[k] == node || linkB[k] == node) {
                        number++;
                    }
                }
                bits |= number == 1 ? 1 << node : 0;
            }
            return bits;
        }

        int blindAsBits() {
            int bits = 0;
            for (int k = 0; k < routes; k++) {
                if (linkBetween(routeNode[k], routeTo[k]) == NONE) {
                    bits |= 1 << k;
                }
            }
            return bits;
        }

        int hiddenAsBits() {
            int bits = 0;
            for (int k = 0; k < routes; k++) {
                for (int j = 0; j < k; j++) {
                    boolean same = routeNode[j] == routeNode[k] && routeTo[j] == routeTo[k];
                    if (same && routeWord[j] == routeWord[k]) {
                        bits |= 1 << k;
                    }
                }
            }
            return bits;
        }

        int servedAsBits() {
            int bits = 0;
            for (int k = 0; k < serves; k++) {
                for (int j = 0; j < serves; j++) {
                    boolean other = j != k && serveNode[j] == serveNode[k];
                    if (other && begins(serveWord[k], serveWord[j])) {
                        bits |= 1 << k;
                    }
                }
            }
            return bits;
        }
    }

    private static final class Run {
        private int deeds = 0;
        private final int[] kind = new int[DEEDS];
        private final int[] first = new int[DEEDS];
        private final int[] second = new int[DEEDS];

        void copy(Run other) {
            deeds = other.deeds;
            System.arraycopy(other.kind, 0, kind, 0, DEEDS);
            System.arraycopy(other.first, 0, first, 0, DEEDS);
            System.arraycopy(other.second, 0, second, 0, DEEDS);
        }

        void add(int what, int one, int two) {
            if (deeds < DEEDS) {
                kind[deeds] = what;
                first[deeds] = one;
                second[deeds] = two;
                deeds++;
            }
        }

        boolean asks(int k) {
            return k >= 0 && k < deeds && (kind[k] == ASK || kind[k] == FRESH);
        }
    }

    private static final class Log {
        private int facts = 0;
        private final int[] of = new int[FACTS];
        private final int[] minute = new int[FACTS];

        void copy(Log other) {
            facts = other.facts;
            System.arraycopy(other.of, 0, of, 0, FACTS);
            System.arraycopy(other.minute, 0, minute, 0, FACTS);
        }

        void add(int ask, int when) {
            if (facts < FACTS) {
                of[facts] = ask;
                minute[facts] = when;
                facts++;
            }
        }
    }

    /** Takes a text apart into a net, a run or a log, or finds its fault. */
    private static final class Reader {
        private static final int END = 0;
        private static final int WORD = 1;
        private static final int NUMBER = 2;
        private static final int MARK = 3;
        private static final int BAD = 4;

        private static final int ROUTE = 4;
        private static final int SERVE = 5;
        private static final int FIRST_DEED = 6;
        private static final int GOT_FACT = 11;

        // Verbs are numbered through all sorts; those of a sort stand from its number here up to the next.
        private static final int[] VERBS = {0, 6, 11, 13};

        private final Net net = new Net();
        private final Run run = new Run();
        private final Log log = new Log();
        private final int[] part = new int[LETTERS];
        private byte[] bytes = new byte[0];
        private int length = 0;
        private int sort = 0;
        private int at = 0;
        private int token = END;
        private int start = 0;
        private int value = 0;
        private int highestNode = 0;
        private int fault = 0;
        private int place = NONE;

        void read(byte[] tape, int size, int kind) {
            bytes = tape;
            length = size;
            sort = kind;
            at = 0;
            fault = 0;
            place = NONE;
            highestNode = 0;
            net.clear();
            run.deeds = 0;
            log.facts = 0;
            step();
            for (int lines = 0; lines < length && token != END && fault != 1; lines++) {
                readLine();
            }
            if (sort == SORT_NET && highestNode >= net.nodes) {
                mark(4, length);
            }
        }

        private void readLine() {
            int verb = token == WORD ? verbHere() : NONE;
            if (verb == NONE) {
                refuse();
                return;
            }
            if (isOneTooMany(verb)) {
                mark(3, start);
            }
            String shape = shapeOf(verb);
            step();
            for (int i = 0; i < shape.length() && i < part.length; i++) {
                char sign = shape.charAt(i);
                if (token != (sign == 'w' ? WORD : NUMBER)) {
                    refuse();
                    return;
                }
                part[i] = value;
                if (!canBe(sign)) {
                    mark(2, start);
                }
                step();
            }
            if (token != MARK) {
                refuse();
                return;
            }
            step();
            if (fault == 0) {
                tell(verb);
            }
        }

        /** Only the first of these faults counts, as they are met in the row of their places. */
        private void mark(int number, int where) {
            if (fault == 0) {
                fault = number;
                place = where;
            }
        }

        /** This fault goes ahead of those that were met before. */
        private void refuse() {
            fault = 1;
            place = start;
        }

        private boolean isOneTooMany(int verb) {
            if (sort == SORT_RUN) {
                return run.deeds >= DEEDS;
            }
            if (sort == SORT_LOG) {
                return log.facts >= FACTS;
            }
            return verb == ROUTE && net.routes >= ROUTES || verb == SERVE && net.serves >= SERVES;
        }

        private boolean canBe(char sign) {
            switch (sign) {
                case 'c':
                    return value >= 1 && value <= NODES;
                case 'l':
                    return value >= 1;
                case 'n':
                    highestNode = Math.max(highestNode, value);
                    return value < NODES;
                case 'm':
                    highestNode = Math.max(highestNode, value);
                    return value < NODES && value != part[0];
                case 'r':
                    return value <= ROOM;
                case 'd':
                    return value >= 1 && value <= 9;
                case 't':
                    return value >= 1 && value <= 20;
                case 'k':
                    return value < DEEDS;
                default:
                    return value != NONE;
            }
        }

        private void tell(int verb) {
            switch (verb) {
                case 0:
                    net.nodes = part[0];
                    break;
                case 1:
                    net.life = part[0];
                    break;
                case 2:
                    net.room[part[0]] = part[1];
                    break;
                case 3:
                    net.addLink(part[0], part[1], part[2]);
                    break;
                case ROUTE:
                    net.addRoute(part[0], part[1], part[2], part[3]);
                    break;
                case SERVE:
                    net.addServe(part[0], part[1], part[2]);
                    break;
                default:
                    if (sort == SORT_RUN) {
                        int deed = verb - FIRST_DEED;
                        run.add(deed, part[0], deed == WAIT ? NONE : part[1]);
                    } else {
                        log.add(part[0], verb == GOT_FACT ? part[1] : NONE);
                    }
                    break;
            }
        }

        private int verbHere() {
            for (int verb = VERBS[sort]; verb < VERBS[sort + 1]; verb++) {
                if (isHere(wordOf(verb))) {
                    return verb;
                }
            }
            return NONE;
        }

        private boolean isHere(String word) {
            if (at - start != word.length()) {
                return false;
            }
            for (int i = 0; i < word.length(); i++) {
                if (bytes[start + i] != word.charAt(i)) {
                    return false;
                }
            }
            return true;
        }

        private static String wordOf(int verb) {
            switch (verb) {
                case 0: return "nodes";
                case 1: return "life";
                case 2: return "room";
                case 3: return "link";
                case ROUTE: return "route";
                case SERVE: return "serve";
                case 6: return "ask";
                case 7: return "fresh";
                case 8: return "wait";
                case 9: return "cut";
                case 10: return "mend";
                case GOT_FACT: return "got";
                default: return "lost";
            }
        }

        /** What stands behind a verb, a sign each: w a word, others the kind of number that canBe() knows. */
        private static String shapeOf(int verb) {
            switch (verb) {
                case 0: return "c";
                case 1: return "l";
                case 2: return "nr";
                case 3: return "nmd";
                case ROUTE: return "nwmf";
                case SERVE: return "nwf";
                case 6: return "nw";
                case 7: return "nw";
                case 8: return "t";
                case 9: return "nm";
                case 10: return "nm";
                case GOT_FACT: return "kf";
                default: return "k";
            }
        }

        private void step() {
            while (at < length && (bytes[at] == 10 || bytes[at] == 32)) {
                at++;
            }
            start = at;
            if (at >= length) {
                token = END;
            } else if (isLetter(bytes[at])) {
                takeWord();
            } else if (isDigit(bytes[at])) {
                takeNumber();
            } else {
                token = bytes[at] == ';' ? MARK : BAD;
                at++;
            }
        }

        private void takeWord() {
            token = WORD;
            value = 0;
            while (at < length && isLetter(bytes[at])) {
                value = at - start < LETTERS ? value * BASE + bytes[at] - 'a' + 1 : NONE;
                at++;
            }
        }

        private void takeNumber() {
            value = 0;
            while (at < length && isDigit(bytes[at])) {
                value = at - start < 2 ? value * 10 + bytes[at] - '0' : NONE;
                at++;
            }
            token = value == NONE ? BAD : NUMBER;
        }

        private static boolean isLetter(int sign) {
            return sign >= 'a' && sign <= 'z';
        }

        private static boolean isDigit(int sign) {
            return sign >= '0' && sign <= '9';
        }
    }

    /** What is asked for at a node and has not come yet. */
    private static final class Entry {
        private int node = 0;
        private int name = 0;
        private int wish = 0;
        private int inNodes = 0;
        private long inAsks = 0;
        private long nonces = 0;
        private int firstNonce = 0;
        private int out = NONE;
        private int tried = 0;
        private int sent = 0;
        private int ends = 0;

        void join(int from, int nonce) {
            nonces |= 1L << nonce;
            if (from == NONE) {
                inAsks |= 1L << nonce;
            } else {
                inNodes |= 1 << from;
            }
        }

        int look(int what) {
            switch (what) {
                case 0: return name;
                case 1: return wish;
                case 2: return inNodes;
                case 3: return Long.bitCount(inAsks);
                case 4: return out;
                case 5: return tried;
                case 6: return sent;
                case 7: return ends;
                default: return NONE;
            }
        }
    }

    /** An interest, data or a negative answer; each kind uses only some of the fields. */
    private static final class Message {
        private static final int INTEREST = 0;
        private static final int DATA = 1;
        private static final int NACK = 2;

        private int kind = INTEREST;
        private int from = 0;
        private int to = 0;
        private int comes = 0;
        private int name = 0;
        private int wish = 0;
        private int nonce = 0;
        private int until = 0;
        private int server = 0;
        private int source = 0;
        private int fromStore = 0;
        private int depth = 0;
        private int root = 0;
        private int where = 0;

        void copy(Message other) {
            kind = other.kind;
            from = other.from;
            to = other.to;
            comes = other.comes;
            name = other.name;
            wish = other.wish;
            nonce = other.nonce;
            until = other.until;
            server = other.server;
            source = other.source;
            fromStore = other.fromStore;
            depth = other.depth;
            root = other.root;
            where = other.where;
        }
    }

    /** The names that a node keeps, the one used longest ago first. */
    private static final class Store {
        private int size = 0;
        private final int[] name = new int[ROOM];
        private final int[] until = new int[ROOM];
        private final int[] server = new int[ROOM];

        int find(int wanted) {
            for (int i = 0; i < size; i++) {
                if (name[i] == wanted) {
                    return i;
                }
            }
            return NONE;
        }

        void use(int i) {
            int usedName = name[i];
            int usedUntil = until[i];
            int usedServer = server[i];
            remove(i);
            add(usedName, usedUntil, usedServer);
        }

        void keep(Message data, int room) {
            int old = find(data.name);
            if (old != NONE) {
                remove(old);
            }
            if (size > 0 && size >= room) {
                remove(0);
            }
            if (size < room) {
                add(data.name, data.until, data.server);
            }
        }

        private void remove(int i) {
            for (int k = i; k + 1 < size; k++) {
                name[k] = name[k + 1];
                until[k] = until[k + 1];
                server[k] = server[k + 1];
            }
            size--;
        }

        private void add(int newName, int newUntil, int newServer) {
            if (size < ROOM) {
                name[size] = newName;
                until[size] = newUntil;
                server[size] = newServer;
                size++;
            }
        }
    }

    /** What came of an ask. */
    private static final class Fate {
        private int result = NOTHING;
        private int asked = 0;
        private int minute = NONE;
        private int source = NONE;
        private int fromStore = NONE;
        private int depth = NONE;
        private int root = NONE;
        private int where = NONE;

        void begin(int now) {
            result = NOTHING;
            asked = now;
            minute = NONE;
            source = NONE;
            fromStore = NONE;
            depth = NONE;
            root = NONE;
            where = NONE;
        }

        int look(int what) {
            switch (what) {
                case 0: return result;
                case 1: return minute;
                case 2: return source;
                case 3: return fromStore;
                case 4: return depth;
                case 5: return root;
                case 6: return where;
                default: return NO_SUCH;
            }
        }
    }

    /** One run of a net, minute by minute. */
    private static final class Course {
        // A node makes at most one lasting entry by each nonce, as a nonce is dead behind it;
        // and each lasting entry adds at most one message to those on their ways and those still owed.
        private static final int MOST = NODES * DRAWS;

        private Net net = new Net();
        private int away = NONE;
        private int now = 0;
        private int down = 0;
        private int seed = 0;
        private final Entry[] entries = new Entry[MOST];
        private int entryCount = 0;
        private final Message[] flying = new Message[MOST];
        private int flyingCount = 0;
        private final Message came = new Message();
        private final Message said = new Message();
        private final int[] measured = new int[NODES * NODES];
        private final long[] dead = new long[NODES];
        private final Store[] stores = new Store[NODES];
        private final Fate[] fates = new Fate[DRAWS];
        private final int[] tally = new int[TALLIES];

        Course() {
            for (int i = 0; i < MOST; i++) {
                entries[i] = new Entry();
                flying[i] = new Message();
            }
            for (int i = 0; i < NODES; i++) {
                stores[i] = new Store();
            }
            for (int i = 0; i < DRAWS; i++) {
                fates[i] = new Fate();
            }
        }

        void begin(Net of, int without) {
            net = of;
            away = without;
            now = 0;
            down = 0;
            entryCount = 0;
            flyingCount = 0;
            Arrays.fill(measured, NONE);
            Arrays.fill(dead, 0L);
            Arrays.fill(tally, 0);
            for (int i = 0; i < NODES; i++) {
                stores[i].size = 0;
            }
        }

        /** How many of the first deeds were done. */
        int replay(Net of, Run run, int deeds, int without) {
            begin(of, without);
            for (int k = 0; k < deeds && k < run.deeds; k++) {
                if (!perform(run, k)) {
                    return k;
                }
                tally[WIDEST] = Math.max(tally[WIDEST], entryCount);
            }
            return Math.min(deeds, run.deeds);
        }

        private boolean perform(Run run, int k) {
            int first = run.first[k];
            int second = run.second[k];
            int kind = run.kind[k];
            if (kind == ASK || kind == FRESH) {
                if (!net.hasNode(first)) {
                    return false;
                }
                ask(k, first, second, kind == FRESH ? FRESH_ALONE : ANY);
                return true;
            }
            if (kind == WAIT) {
                int until = now + first;
                for (int i = 0; i < first && until <= LAST_MINUTE; i++) {
                    passMinute();
                }
                return until <= LAST_MINUTE;
            }
            int link = net.linkBetween(first, second);
            boolean isDown = link != NONE && (down & 1 << link) != 0;
            if (link == NONE || link == away || isDown != (kind == MEND)) {
                return false;
            }
            down ^= 1 << link;
            return true;
        }

        void askAlone(Net of, int node, int name, int wish) {
            begin(of, NONE);
            ask(0, node, name, wish);
            for (int i = 0; i < LAST_MINUTE; i++) {
                passMinute();
            }
        }

        void draw(Net of, int start, int times) {
            begin(of, NONE);
            seed = start;
            for (int time = 0; time < times; time++) {
                int what = below(10);
                if (what <= 4) {
                    drawAsk(time, what == 4 ? FRESH_ALONE : ANY);
                } else if (what <= 8) {
                    drawWait();
                } else if (net.links > 0) {
                    down ^= 1 << below(net.links);
                }
            }
        }

        private void drawAsk(int time, int wish) {
            if (net.serves > 0) {
                int node = below(net.nodes);
                int name = net.serveWord[below(net.serves)];
                int letter = below(3);
                boolean longer = letter != 0 && name < FOUR_LETTERS;
                ask(time, node, longer ? name * BASE + letter : name, wish);
            }
        }

        private void drawWait() {
            int minutes = 1 + below(5);
            int until = now + minutes;
            for (int i = 0; i < minutes && until <= LAST_MINUTE; i++) {
                passMinute();
            }
        }

        private int below(int n) {
            seed = seed * 1103515245 + 12345;
            return n > 0 ? (seed >>> 16) % n : 0;
        }

        private void ask(int nonce, int node, int name, int wish) {
            fates[nonce].begin(now);
            if (!isMet(node, NONE, name, wish, nonce)) {
                makeEntry(node, NONE, name, wish, nonce);
            }
        }

        private void passMinute() {
            now++;
            endEntries();
            int at = 0;
            for (int left = flyingCount; left > 0; left--) {
                if (flying[at].comes != now) {
                    at++;
                    continue;
                }
                land(at);
                if (came.kind == Message.DATA) {
                    takeData();
                } else if (came.kind == Message.NACK) {
                    takeNack();
                } else if (!isMet(came.to, came.from, came.name, came.wish, came.nonce)) {
                    makeEntry(came.to, came.from, came.name, came.wish, came.nonce);
                }
            }
        }

        private void endEntries() {
            int i = 0;
            for (int left = entryCount; left > 0; left--) {
                Entry e = entries[i];
                if (e.ends != now) {
                    i++;
                    continue;
                }
                if (e.out != NONE) {
                    measured[e.node * NODES + e.out] = net.life;
                }
                for (int k = 0; k < DRAWS; k++) {
                    if ((e.inAsks & 1L << k) != 0) {
                        fates[k].result = RAN_OUT;
                        fates[k].minute = now;
                    }
                }
                dead[e.node] |= e.nonces;
                drop(i);
            }
        }

        /** Its place in the row is free for one that is sent while it is worked on. */
        private void land(int i) {
            Message landed = flying[i];
            came.copy(landed);
            for (int k = i; k + 1 < flyingCount; k++) {
                flying[k] = flying[k + 1];
            }
            flyingCount--;
            flying[flyingCount] = landed;
        }

        /** Whether an interest is answered or joins an entry; if not, it needs one of its own. */
        private boolean isMet(int node, int from, int name, int wish, int nonce) {
            int i = find(node, name, wish);
            boolean known = i != NONE && (entries[i].nonces & 1L << nonce) != 0;
            int kept = stores[node].find(name);
            boolean good = kept != NONE && (wish == ANY || stores[node].until[kept] >= now);
            int serve = net.serving(node, name);
            if (known || (dead[node] & 1L << nonce) != 0) {
                tally[LOOPS]++;
                sayNack(name, wish, LOOP, node);
                answer(node, from, nonce);
            } else if (good) {
                tally[HITS]++;
                sayStored(stores[node], kept, node);
                stores[node].use(kept);
                answer(node, from, nonce);
            } else if (serve != NONE) {
                sayServed(name, now + net.serveFresh[serve], node);
                answer(node, from, nonce);
            } else if (i != NONE) {
                tally[JOINED]++;
                entries[i].join(from, nonce);
            } else {
                return false;
            }
            return true;
        }

        private void makeEntry(int node, int from, int name, int wish, int nonce) {
            if (entryCount >= MOST) {
                return;
            }
            Entry e = entries[entryCount];
            e.node = node;
            e.name = name;
            e.wish = wish;
            e.inNodes = 0;
            e.inAsks = 0;
            e.nonces = 0;
            e.firstNonce = nonce;
            e.out = NONE;
            e.tried = 0;
            e.ends = now + net.life;
            e.join(from, nonce);
            if (goOn(e)) {
                entryCount++;
            } else {
                sayNack(name, wish, NO_WAY, node);
                answer(node, from, nonce);
            }
        }

        private boolean goOn(Entry e) {
            int next = bestWay(e.node, e.name, e.inNodes | e.tried);
            if (next == NONE) {
                return false;
            }
            e.out = next;
            e.tried |= 1 << next;
            e.sent = now;
            said.kind = Message.INTEREST;
            said.name = e.name;
            said.wish = e.wish;
            said.nonce = e.firstNonce;
            send(e.node, next);
            return true;
        }

        int bestWay(int node, int name, int barred) {
            int word = net.routed(node, name);
            int best = NONE;
            int least = 0;
            for (int k = 0; k < net.routes; k++) {
                int to = net.routeTo[k];
                boolean leads = net.routeNode[k] == node && net.routeWord[k] == word;
                if (!leads || (barred & 1 << to) != 0 || !isUp(net.linkOf[node * NODES + to])) {
                    continue;
                }
                int known = measured[node * NODES + to];
                int cost = known == NONE ? net.routeCost[k] : known;
                if (best == NONE || cost < least || cost == least && to < best) {
                    best = to;
                    least = cost;
                }
            }
            return best;
        }

        private boolean isUp(int link) {
            return link != NONE && link != away && (down & 1 << link) == 0;
        }

        private void takeData() {
            int node = came.to;
            boolean fresh = came.until >= now;
            int first = firstServed(node, fresh);
            if (first == NONE) {
                tally[DROPPED]++;
                return;
            }
            if (entries[first].out == came.from) {
                measured[node * NODES + came.from] = now - entries[first].sent;
            }
            stores[node].keep(came, net.room[node]);
            said.copy(came);
            int i = first;
            for (int left = entryCount - first; left > 0; left--) {
                if (isServed(entries[i], node, fresh)) {
                    close(i);
                } else {
                    i++;
                }
            }
        }

        private int firstServed(int node, boolean fresh) {
            for (int i = 0; i < entryCount; i++) {
                if (isServed(entries[i], node, fresh)) {
                    return i;
                }
            }
            return NONE;
        }

        private boolean isServed(Entry e, int node, boolean fresh) {
            return e.node == node && e.name == came.name && (e.wish == ANY || fresh);
        }

        private void takeNack() {
            int i = find(came.to, came.name, came.wish);
            if (i == NONE || entries[i].out != came.from || goOn(entries[i])) {
                return;
            }
            said.copy(came);
            said.depth = came.depth + 1;
            close(i);
        }

        /** Hands what is said to all that wait for an entry, and ends it. */
        private void close(int i) {
            Entry e = entries[i];
            for (int node = 0; node < NODES; node++) {
                if ((e.inNodes & 1 << node) != 0) {
                    send(e.node, node);
                }
            }
            for (int k = 0; k < DRAWS; k++) {
                if ((e.inAsks & 1L << k) != 0) {
                    settle(k);
                }
            }
            dead[e.node] |= e.nonces;
            drop(i);
        }

        private void drop(int i) {
            Entry e = entries[i];
            for (int k = i; k + 1 < entryCount; k++) {
                entries[k] = entries[k + 1];
            }
            entryCount--;
            entries[entryCount] = e;
        }

        private void answer(int node, int from, int nonce) {
            if (from == NONE) {
                settle(nonce);
            } else {
                send(node, from);
            }
        }

        private void settle(int k) {
            Fate fate = fates[k];
            fate.minute = now;
            if (said.kind == Message.DATA) {
                fate.result = GOT;
                fate.source = said.source;
                fate.fromStore = said.fromStore;
            } else {
                fate.result = REFUSED;
                fate.depth = said.depth;
                fate.root = said.root;
                fate.where = said.where;
            }
        }

        private void send(int from, int to) {
            int link = net.linkOf[from * NODES + to];
            if (!isUp(link)) {
                tally[MISSED]++;
                return;
            }
            if (flyingCount < MOST) {
                Message m = flying[flyingCount];
                m.copy(said);
                m.from = from;
                m.to = to;
                m.comes = now + net.delay[link];
                flyingCount++;
                tally[SENT]++;
            }
        }

        private void sayStored(Store store, int i, int node) {
            said.kind = Message.DATA;
            said.name = store.name[i];
            said.until = store.until[i];
            said.server = store.server[i];
            said.source = node;
            said.fromStore = 1;
        }

        private void sayServed(int name, int until, int node) {
            said.kind = Message.DATA;
            said.name = name;
            said.until = until;
            said.server = node;
            said.source = node;
            said.fromStore = 0;
        }

        private void sayNack(int name, int wish, int root, int where) {
            said.kind = Message.NACK;
            said.name = name;
            said.wish = wish;
            said.depth = 1;
            said.root = root;
            said.where = where;
        }

        private int find(int node, int name, int wish) {
            for (int i = 0; i < entryCount; i++) {
                Entry e = entries[i];
                if (e.node == node && e.name == name && e.wish == wish) {
                    return i;
                }
            }
            return NONE;
        }

        Entry entryAt(int node, int i) {
            int met = 0;
            for (int k = 0; k < entryCount; k++) {
                if (entries[k].node == node) {
                    if (met == i) {
                        return entries[k];
                    }
                    met++;
                }
            }
            return null;
        }

        private int entriesAt(int node) {
            int number = 0;
            for (int k = 0; k < entryCount; k++) {
                if (entries[k].node == node) {
                    number++;
                }
            }
            return number;
        }

        int look(int what) {
            switch (what) {
                case 0: return now;
                case 1: return flyingCount;
                case 2: return entryCount;
                case 3: return Integer.bitCount(down);
                default: break;
            }
            if (what < 10) {
                return NO_SUCH;
            }
            int one = what % 10;
            int ten = what / 10;
            if (!net.hasNode(one)) {
                return NO_SUCH;
            }
            switch (ten) {
                case 1: return entriesAt(one);
                case 2: return stores[one].size;
                case 3: return Long.bitCount(dead[one]);
                default: return net.hasNode(ten - 10) ? measured[(ten - 10) * NODES + one] : NO_SUCH;
            }
        }
    }
}
