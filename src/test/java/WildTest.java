import com.sun.management.ThreadMXBean;
import java.lang.management.ManagementFactory;
import java.nio.file.Files;
import java.nio.file.Path;
import java.util.Random;
import java.util.regex.Matcher;
import java.util.regex.Pattern;

/** What holds for all promises: no call throws, calls make nothing anew, the source keeps to its part of Java. */
public final class WildTest {

    private static final String DENSE = "nodes 6;life 99;link 0 1 9;link 0 2 8;link 0 3 7;link 0 4 6;link 0 5 5;link 1 2 9;link 1 3 8;"
        + "link 1 4 7;link 1 5 6;link 2 3 5;link 2 4 4;link 2 5 3;link 3 4 2;link 3 5 1;link 4 5 9;"
        + "route 0 a 1 0;route 0 a 2 1;route 1 a 2 0;route 1 a 3 1;route 2 a 3 0;route 2 a 4 1;route 3 a 4 0;route 3 a 5 1;"
        + "route 4 a 5 0;route 4 a 0 1;route 5 a 0 0;route 5 a 1 1;";

    public static void main(String[] args) throws Exception {
        wildArguments();
        crowd();
        room();
        source();
        Kit.finish();
    }

    private static int wild(Random r) {
        return switch (r.nextInt(4)) {
            case 0 -> r.nextInt();
            case 1 -> r.nextBoolean() ? Integer.MAX_VALUE - r.nextInt(30) : Integer.MIN_VALUE + r.nextInt(30);
            default -> r.nextInt(45) - 3;
        };
    }

    private static void wildArguments() {
        String[] parts = {"ask", "nodes", "link", "route", "got", "lost", "wait", "cut", " 0", " 1", " 5", " 9", " a", " ab", ";", ";", "\n", "X", "123"};
        for (int seed = 0; seed < 300; seed++) {
            Random r = new Random(seed);
            AskedNames x = new AskedNames();
            if (seed % 3 != 0) {
                Kit.tell(x, 0, DENSE);
                Kit.tell(x, 1, "ask 0 a;ask 1 ab;wait 9;fresh 2 a;cut 0 1;wait 20;");
                Kit.tell(x, 2, "lost 0;");
            }
            for (int i = 0; i < 400; i++) {
                if (r.nextInt(10) == 0) {
                    StringBuilder text = new StringBuilder();
                    for (int k = r.nextInt(60); k > 0; k--) {
                        text.append(parts[r.nextInt(parts.length)]);
                    }
                    Kit.write(x, text.toString());
                    x.text(r.nextInt(3), r.nextInt(3) - 1);
                }
                try {
                    callWildly(x, r);
                } catch (RuntimeException e) {
                    Kit.due("a wild call of seed " + seed + " threw " + e, 1, 0);
                }
            }
        }
    }

    private static int node(Random r) {
        return r.nextInt(8) == 0 ? wild(r) : r.nextInt(6);
    }

    private static int number(Random r) {
        return r.nextInt(8) == 0 ? wild(r) : r.nextInt(2);
    }

    private static void callWildly(AskedNames x, Random r) {
        switch (r.nextInt(24)) {
            case 0 -> x.feed(wild(r), wild(r), wild(r), wild(r), wild(r));
            case 1 -> x.end(wild(r));
            case 2 -> x.text(wild(r), wild(r));
            case 3 -> x.fault(wild(r));
            case 4 -> x.net(number(r), wild(r));
            case 5 -> x.deed(number(r), wild(r), wild(r));
            case 6 -> x.stop(number(r), number(r));
            case 7 -> x.state(number(r), number(r), wild(r), wild(r));
            case 8 -> x.stored(number(r), number(r), node(r), node(r), wild(r), wild(r));
            case 9 -> x.entry(number(r), number(r), node(r), node(r), wild(r), wild(r));
            case 10 -> x.why(number(r), number(r), node(r), wild(r));
            case 11 -> x.alone(number(r), node(r), wild(r), number(r), wild(r));
            case 12 -> x.table(number(r), node(r), wild(r));
            case 13 -> x.ways(number(r), node(r), wild(r), r.nextBoolean());
            case 14 -> x.trail(number(r), node(r), wild(r), wild(r));
            case 15 -> x.far(number(r), node(r), node(r));
            case 16 -> x.fact(number(r), wild(r), wild(r));
            case 17 -> x.fits(number(r), number(r), number(r), wild(r));
            case 18 -> x.drawn(number(r), wild(r), wild(r), wild(r));
            case 19 -> x.after(number(r), number(r), wild(r));
            case 20 -> x.edges(number(r), wild(r));
            case 21 -> x.count(wild(r));
            case 22 -> x.image(number(r));
            default -> x.again(number(r));
        }
    }

    /** Forty names asked for at once, all of them on their ways round for as long as may be. */
    private static String manyAsks() {
        StringBuilder run = new StringBuilder();
        for (int i = 0; i < 35; i++) {
            run.append("ask ").append(i % 6).append(" a").append((char) ('a' + i % 26)).append((char) ('a' + i / 26)).append(";");
        }
        return run + "wait 20;wait 20;wait 20;wait 20;wait 19;";
    }

    private static void crowd() {
        AskedNames x = Kit.told(DENSE, manyAsks());
        Model m = new Model();
        tell(m, 0, DENSE);
        tell(m, 1, manyAsks());
        for (int n = 0; n <= 40; n++) {
            for (int what : new int[] {0, 1, 2, 10, 15, 30, 35, 101, 134}) {
                Kit.due("state(0, 0, " + n + ", " + what + ") of a crowd", x.state(0, 0, n, what), m.state(0, 0, n, what));
            }
        }
        for (int what = 0; what < 9; what++) {
            Kit.due("after(0, 0, " + what + ") of a crowd", x.after(0, 0, what), m.after(0, 0, what));
        }
    }

    private static void tell(Model m, int sort, String text) {
        for (int i = 0; i < text.length(); i += 20) {
            int[] five = Kit.twenty(text, i);
            m.feed(five[0], five[1], five[2], five[3], five[4]);
        }
        m.end(text.length());
        m.text(sort, -1);
    }

    /** A new object is small, and its dearest calls make nothing. */
    private static void room() {
        ThreadMXBean threads = (ThreadMXBean) ManagementFactory.getThreadMXBean();
        long id = Thread.currentThread().getId();
        threads.getThreadAllocatedBytes(id);
        long before = threads.getThreadAllocatedBytes(id);
        AskedNames x = new AskedNames();
        long made = threads.getThreadAllocatedBytes(id) - before;
        Kit.due("a new object takes less than 200,000 bytes: " + made, made < 200_000, true);
        Kit.tell(x, 0, DENSE);
        Kit.tell(x, 1, manyAsks());
        Kit.tell(x, 2, "lost 0;lost 1;");
        int sum = 0;
        before = threads.getThreadAllocatedBytes(id);
        for (int i = 0; i < 100; i++) {
            sum += x.fits(0, 0, 0, 0) + x.drawn(0, i, 60, 2) + x.alone(0, 0, 1, 0, 2) + x.trail(0, 0, 1, 20);
            sum += x.entry(0, 0, 20, 0, 0, 0) + x.stored(0, 0, 20, 0, 0, 0) + x.after(0, 0, 0) + x.far(0, 0, 5);
            sum += x.image(1) && x.again(1) ? 1 : 0;
            x.feed(0x77616974, 0x20313b20, 0x20202020, 0x20202020, 0x20202020);
            sum += x.text(1, i % 2 - 1);
            sum += x.again(1) ? 1 : 0;
        }
        made = threads.getThreadAllocatedBytes(id) - before;
        Kit.due("calls make nothing: " + made + " bytes, sum " + sum, made < 20_000, true);
    }

    private static void source() throws Exception {
        String text = Files.readString(Path.of("src/main/java/AskedNames.java"));
        String code = text.replaceAll("(?s)/\\*.*?\\*/", "").replaceAll("//.*", "").replaceAll("\"[^\"]*\"", "\"\"");
        String banned = "\\b(throw|throws|try|catch|synchronized|assert|protected|Object|HashMap|Exception|hashCode|package|Exact)\\b|->|::";
        Matcher m = Pattern.compile(banned).matcher(code);
        while (m.find()) {
            Kit.due("the source has " + m.group(), 1, 0);
        }
        m = Pattern.compile("import (.*);").matcher(code);
        while (m.find()) {
            Kit.due("import of " + m.group(1), m.group(1).equals("java.util.Arrays"), true);
        }
        String face = "feed|end|text|fault|net|deed|stop|state|stored|entry|why|alone|table|ways|trail|far|fact|fits|drawn|after|edges|count|image|again";
        m = Pattern.compile("(?m)^ *(\\w+ )*(int|boolean|void) (" + face + ")\\(").matcher(code);
        int publics = 0;
        while (m.find()) {
            publics++;
            Kit.due("public is" + m.group(), m.group().contains("public "), true);
        }
        Kit.due("methods of the face", publics, 24);
        for (char c : text.toCharArray()) {
            Kit.due("signs of the source", c < 128, true);
        }
    }
}
