import java.util.NoSuchElementException;
import java.util.Random;

/** Long runs of calls by chance (always the same ones): CoalVend answers as the slow Model does. */
public final class ModelTest {
    private static final int RUNS = Integer.getInteger("runs", 150);
    private static final int SEED = Integer.getInteger("seed", 1);
    private static final String[] METHODS = {"owner", "digs", "rebate", "breaker", "ship", "keels", "winds", "city", "feed",
        "pact", "law", "days", "price", "report", "known", "proved", "fine", "sale", "named", "whatIf", "tempted", "slide",
        "tried", "best", "foretold", "look", "month", "lies", "load", "count"};
    private static final long THROWN = Long.MIN_VALUE;

    private final Random random;
    private final RandomTexts texts;
    private final CoalVend vend = new CoalVend();
    private final Model model = new Model();
    private final StringBuilder log = new StringBuilder();
    private final int pace;
    private int calls;
    private int lastWind;
    private boolean right = true;

    private ModelTest(long seed) {
        random = new Random(seed);
        texts = new RandomTexts(random);
        pace = random.nextInt(3);
    }

    private int to(int most) {
        return random.nextInt(25) == 0 ? random.nextInt(most + 5) - 2 : random.nextInt(most + 1);
    }

    private int any() {
        int[] odd = {-1, 0, 1, Integer.MAX_VALUE, Integer.MIN_VALUE, 1 << 30, 999, 10000, -7};
        return odd[random.nextInt(odd.length)];
    }

    private int owner() {
        int n = model.count(1);
        if (random.nextInt(3) == 0) {
            return 0;
        }
        return n == 0 || random.nextInt(40) == 0 ? (random.nextBoolean() ? any() : n) : random.nextInt(n);
    }

    private String one(String... of) {
        return of[random.nextInt(of.length)];
    }

    private int set() {
        int n = model.count(1);
        return random.nextInt(40) == 0 ? any() : random.nextInt(1 << n) & (random.nextBoolean() ? -1 : random.nextInt(1 << n));
    }

    private int month() {
        int over = model.count(0) / 30;
        if (over == 0 || random.nextInt(20) == 0) {
            return to(24);
        }
        return random.nextInt(3) > 0 ? over - 1 : random.nextInt(over + 1);
    }

    private int day() {
        return to(Math.max(1, model.count(0)));
    }

    private void same(String call, long a, long b) {
        calls++;
        log.append(call).append(" = ").append(b == THROWN ? "throws" : "" + b).append('\n');
        if (a != b && right) {
            right = false;
            System.out.println(log + "but CoalVend answered " + (a == THROWN ? "throws" : "" + a));
        }
    }

    private void whatIf(int set, int owner, int n) {
        long a = THROWN;
        long b = THROWN;
        try {
            a = vend.whatIf(set, owner, n);
        } catch (NoSuchElementException e) {
            a = THROWN;
        }
        try {
            b = model.whatIf(set, owner, n);
        } catch (NoSuchElementException e) {
            b = THROWN;
        }
        same("whatIf(" + set + ", " + owner + ", " + n + ")", a, b);
    }

    private void tried(int issue) {
        long a = THROWN;
        long b = THROWN;
        try {
            a = vend.tried(issue);
        } catch (NoSuchElementException e) {
            a = THROWN;
        }
        try {
            b = model.tried(issue);
        } catch (NoSuchElementException e) {
            b = THROWN;
        }
        same("tried(" + issue + ")", a, b);
    }

    private void look(int owner, int what) {
        long a = THROWN;
        long b = THROWN;
        try {
            a = vend.look(owner, what);
        } catch (NoSuchElementException e) {
            a = THROWN;
        }
        try {
            b = model.look(owner, what);
        } catch (NoSuchElementException e) {
            b = THROWN;
        }
        same("look(" + owner + ", " + what + ")", a, b);
    }

    private void feed(String text) {
        for (int at = 0; at < text.length(); at += 24) {
            long[] eights = new long[3];
            for (int i = 0; i < 24; i++) {
                eights[i / 8] = eights[i / 8] << 8 | (at + i < text.length() ? text.charAt(at + i) : 0);
            }
            same("feed(" + eights[0] + ", " + eights[1] + ", " + eights[2] + ")", vend.feed(eights[0], eights[1], eights[2]),
                    model.feed(eights[0], eights[1], eights[2]));
        }
    }

    private static int bit(boolean b) {
        return b ? 1 : 0;
    }

    private void setUp() {
        int owners = random.nextInt(8) == 0 ? 10 : 1 + random.nextInt(6);
        for (int i = 0; i < owners; i++) {
            call("owner");
        }
        for (int i = random.nextInt(9); i >= 0; i--) {
            call("ship");
        }
        if (random.nextBoolean()) {
            call("city");
        }
        for (int i = random.nextInt(40); i >= 0; i--) {
            call("winds");
        }
        if (random.nextInt(4) > 0) {
            call("pact");
        }
    }

    private void call(String method) {
        switch (method) {
            case "owner": {
                int q = to(4);
                int m = random.nextInt(3) == 0 ? 1 + random.nextInt(3) : to(999);
                int d = random.nextInt(10) == 0 ? to(99) : to(30);
                int c = to(99);
                same("owner(" + q + ", " + m + ", " + d + ", " + c + ")", vend.owner(q, m, d, c), model.owner(q, m, d, c));
                break;
            }
            case "digs": {
                int o = owner();
                int n = to(99);
                same("digs(" + o + ", " + n + ")", bit(vend.digs(o, n)), bit(model.digs(o, n)));
                break;
            }
            case "rebate": {
                int o = owner();
                int n = to(50);
                same("rebate(" + o + ", " + n + ")", bit(vend.rebate(o, n)), bit(model.rebate(o, n)));
                break;
            }
            case "breaker": {
                int o = owner();
                boolean yes = random.nextBoolean();
                same("breaker(" + o + ", " + yes + ")", bit(vend.breaker(o, yes)), bit(model.breaker(o, yes)));
                break;
            }
            case "ship": {
                int room = random.nextInt(20) == 0 ? any() : 6 + random.nextInt(random.nextInt(3) > 0 ? 30 : 93);
                int q = random.nextBoolean() ? 0 : to(4);
                same("ship(" + room + ", " + q + ")", vend.ship(room, q), model.ship(room, q));
                break;
            }
            case "keels": {
                int n = to(6);
                same("keels(" + n + ")", bit(vend.keels(n)), bit(model.keels(n)));
                break;
            }
            case "winds": {
                lastWind = random.nextInt(4) == 0 ? to(3) : lastWind == 1 ? 2 : 1;
                int w = lastWind;
                int n = random.nextInt(20) == 0 ? to(60) : 1 + random.nextInt(7);
                same("winds(" + w + ", " + n + ")", vend.winds(w, n), model.winds(w, n));
                break;
            }
            case "city": {
                int s = random.nextInt(5) == 0 ? to(99999) : to(600);
                int w = random.nextInt(5) == 0 ? to(999) : to(60);
                int b = random.nextInt(20) == 0 ? any() : 1 + random.nextInt(random.nextBoolean() ? 999 : 60);
                same("city(" + s + ", " + w + ", " + b + ")", bit(vend.city(s, w, b)), bit(model.city(s, w, b)));
                break;
            }
            case "feed": {
                long a = random.nextLong();
                same("feed(" + a + ", 0, 10)", vend.feed(a, 0, 10), model.feed(a, 0, 10));
                break;
            }
            default:
                callMore(method);
        }
    }

    private void callMore(String method) {
        switch (method) {
            case "pact": {
                if (random.nextInt(5) > 0 && model.count(13) > 0) {
                    same("pact()", vend.pact(), model.pact());
                }
                String text = texts.pact();
                feed(text);
                log.append("text: ").append(text).append('\n');
                same("pact()", vend.pact(), model.pact());
                break;
            }
            case "law": {
                if (random.nextInt(5) > 0 && model.count(13) > 0) {
                    same("law()", vend.law(), model.law());
                }
                String text = texts.law();
                feed(text);
                log.append("text: ").append(text).append('\n');
                same("law()", vend.law(), model.law());
                break;
            }
            case "days": {
                int n = pace == 0 && random.nextInt(12) == 0 ? to(60) : pace == 1 && random.nextInt(4) == 0 ? 30 - model.count(0) % 30 : to(4);
                same("days(" + n + ")", vend.days(n), model.days(n));
                break;
            }
            case "price": {
                int q = to(4);
                same("price(" + q + ")", vend.price(q), model.price(q));
                break;
            }
            case "report": {
                int o = owner();
                int m = month();
                int k = to(2);
                int v = Math.max(0, model.month(o, m, 0));
                int n = random.nextInt(12) == 0 ? to(9999) : k == 0 ? v / 8 + random.nextInt(2) : k == 1 ? v : v * 7 / 2;
                same("report(" + o + ", " + m + ", " + k + ", " + n + ")", vend.report(o, m, k, n), model.report(o, m, k, n));
                break;
            }
            case "known": {
                int o = owner();
                int m = month();
                int t = random.nextBoolean() ? model.count(0) : day();
                int w = to(2);
                same("known(" + o + ", " + m + ", " + t + ", " + w + ")", vend.known(o, m, t, w), model.known(o, m, t, w));
                break;
            }
            case "proved": {
                int o = owner();
                int m = month();
                int t = random.nextBoolean() ? model.count(0) : day();
                same("proved(" + o + ", " + m + ", " + t + ")", vend.proved(o, m, t), model.proved(o, m, t));
                break;
            }
            case "fine": {
                int o = owner();
                int m = month();
                same("fine(" + o + ", " + m + ")", vend.fine(o, m), model.fine(o, m));
                break;
            }
            case "sale": {
                int s = set();
                int d = to(9999);
                int p = random.nextInt(4) == 0 ? to(9999) : d * (40 + random.nextInt(70)) / 100;
                same("sale(" + s + ", " + d + ", " + p + ")", vend.sale(s, d, p), model.sale(s, d, p));
                break;
            }
            default:
                callLast(method);
        }
    }

    private void callLast(String method) {
        int o = owner();
        int set = set();
        switch (method) {
            case "named": {
                int i = to(3);
                same("named(" + i + ")", vend.named(i), model.named(i));
                break;
            }
            case "whatIf":
                whatIf(set, o, to(60));
                break;
            case "tempted": {
                int n = to(60);
                same("tempted(" + set + ", " + o + ", " + n + ")", vend.tempted(set, o, n), model.tempted(set, o, n));
                break;
            }
            case "slide": {
                int n = to(30);
                int w = to(1);
                same("slide(" + n + ", " + w + ")", vend.slide(n, w), model.slide(n, w));
                break;
            }
            case "tried":
                tried(random.nextBoolean() ? to(9999) : to(500));
                break;
            case "best": {
                int s = random.nextBoolean() ? to(400) : to(30);
                same("best(" + s + ")", vend.best(s), model.best(s));
                break;
            }
            case "foretold": {
                boolean frost = random.nextBoolean();
                same("foretold(" + frost + ")", vend.foretold(frost), model.foretold(frost));
                break;
            }
            case "look":
                look(o, to(9));
                break;
            case "month": {
                int m = month();
                int w = to(1);
                same("month(" + o + ", " + m + ", " + w + ")", vend.month(o, m, w), model.month(o, m, w));
                break;
            }
            case "lies": {
                int s = to(7);
                int w = to(3);
                same("lies(" + s + ", " + w + ")", vend.lies(s, w), model.lies(s, w));
                break;
            }
            case "load": {
                int s = to(7);
                int i = to(5);
                same("load(" + s + ", " + i + ")", vend.load(s, i), model.load(s, i));
                break;
            }
            default: {
                int w = random.nextInt(20) == 0 ? any() : to(16);
                same("count(" + w + ")", vend.count(w), model.count(w));
            }
        }
    }

    /** Everything that can be seen of both is the same. */
    private void seeAll() {
        for (int what = 0; what <= 16; what++) {
            same("count(" + what + ")", vend.count(what), model.count(what));
        }
        for (int o = 0; o < model.count(1); o++) {
            for (int what = 0; what <= 9; what++) {
                look(o, what);
            }
            for (int m = 0; m < model.count(0) / 30; m++) {
                for (int what = 0; what <= 1; what++) {
                    same("month(" + o + ", " + m + ", " + what + ")", vend.month(o, m, what), model.month(o, m, what));
                }
            }
        }
        for (int s = 0; s < model.count(2); s++) {
            for (int what = 0; what <= 3; what++) {
                same("lies(" + s + ", " + what + ")", vend.lies(s, what), model.lies(s, what));
            }
        }
    }

    private boolean run() {
        setUp();
        for (int i = 0; i < 400 && right; i++) {
            call(random.nextInt(4) == 0 ? one("days", "winds", "report", "fine", "proved", "sale", "tempted", "whatIf", "look")
                    : METHODS[random.nextInt(METHODS.length)]);
            if (random.nextInt(40) == 0) {
                seeAll();
            }
        }
        seeAll();
        return right;
    }

    public static void main(String[] args) {
        int passed = 0;
        int failed = 0;
        long calls = 0;
        for (int i = 0; i < RUNS && failed < 3; i++) {
            ModelTest test = new ModelTest(SEED * 1000003L + i);
            if (test.run()) {
                passed++;
            } else {
                failed++;
            }
            calls += test.calls;
        }
        System.out.println(calls + " calls compared");
        System.out.println(passed + " passed, " + failed + " failed");
        System.exit(failed == 0 ? 0 : 1);
    }
}
