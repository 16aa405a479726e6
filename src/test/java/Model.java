import java.util.ArrayList;
import java.util.HashMap;
import java.util.HashSet;
import java.util.List;
import java.util.Map;
import java.util.NoSuchElementException;
import java.util.Set;
import java.util.TreeSet;

/**
 * A second, slow reading of the document with the same face, to which CoalVend is compared.
 * It keeps whole histories by day and month where CoalVend keeps what is needed next,
 * walks trees where CoalVend works out codes, and copies all of itself for a WHAT IF.
 */
public final class Model {
    private static final String LETTERS = "abcdefghijklmnopqrstuvwxyz";
    private static final List<String> KINDS = List.of("weight", "issue", "fine", "fall", "rests", "bar");
    private static final Set<String> FACTS = Set.of("might", "quality", "digs", "stock", "vended", "allotted", "over",
            "price", "city", "want", "ships", "hungry", "month", "breakers");

    private static final class Own {
        int quality;
        int might;
        int digs;
        int cost;
        int rebate;
        int stock;
        int gain;
        boolean breaker;
        int[] vended = new int[25];
        int[] allotted = new int[25];
    }

    private static final class Vessel {
        int room;
        int least;
        int where;
        int windDays;
        int came;
        List<Integer> cargo = new ArrayList<>();
    }

    private interface Node {
        int tell(Model m, Own o, int over);
    }

    private static final class PactText {
        Map<String, Node> lines = new HashMap<>();
        List<Node> falls = new ArrayList<>();
        String rests;
        Integer bar;
    }

    private static final class LawText {
        Set<String> voids = new HashSet<>();
        int duty;
    }

    private record Told(int owner, int month, int day, int low, int high) {
    }

    private record Sold(int set, int due, int paid) {
    }

    private int now;
    private List<Own> owners = new ArrayList<>();
    private List<Vessel> vessels = new ArrayList<>();
    private int keels = 2;
    private int turn;
    private List<Integer> winds = new ArrayList<>();
    private boolean allFrost;
    private int cityStock;
    private int want = 20;
    private int base = 100;
    private TreeSet<Integer> hungry = new TreeSet<>();
    private int sold;
    private Map<Integer, LawText> laws = new HashMap<>();
    private PactText pact;
    private PactText inHand;
    private PactText[] pacts = new PactText[25];
    private int issue;
    private Integer issueInPlace;
    private StringBuilder tape = new StringBuilder();
    private List<Told> reports = new ArrayList<>();
    private Set<Integer> fined = new HashSet<>();
    private List<Sold> sales = new ArrayList<>();

    private Model copy() {
        Model m = new Model();
        m.now = now;
        for (Own o : owners) {
            Own c = new Own();
            c.quality = o.quality;
            c.might = o.might;
            c.digs = o.digs;
            c.cost = o.cost;
            c.rebate = o.rebate;
            c.stock = o.stock;
            c.gain = o.gain;
            c.breaker = o.breaker;
            c.vended = o.vended.clone();
            c.allotted = o.allotted.clone();
            m.owners.add(c);
        }
        for (Vessel v : vessels) {
            Vessel c = new Vessel();
            c.room = v.room;
            c.least = v.least;
            c.where = v.where;
            c.windDays = v.windDays;
            c.came = v.came;
            c.cargo.addAll(v.cargo);
            m.vessels.add(c);
        }
        m.keels = keels;
        m.turn = turn;
        m.winds.addAll(winds);
        m.cityStock = cityStock;
        m.want = want;
        m.base = base;
        m.hungry.addAll(hungry);
        m.sold = sold;
        m.laws.putAll(laws);
        m.pact = pact;
        m.inHand = inHand;
        m.pacts = pacts.clone();
        m.issue = issue;
        return m;
    }

    // ---- what is told

    public int owner(int quality, int might, int digs, int cost) {
        if (quality < 0 || quality > 4 || might < 1 || might > 999 || digs < 0 || digs > 99 || cost < 0 || cost > 99
                || owners.size() == 10) {
            return -1;
        }
        Own o = new Own();
        o.quality = quality;
        o.might = might;
        o.digs = digs;
        o.cost = cost;
        owners.add(o);
        return owners.size() - 1;
    }

    private boolean none(int owner) {
        return owner < 0 || owner >= owners.size();
    }

    private boolean noSet(int set) {
        if (set < 0) {
            return true;
        }
        for (int i = 0; i < 31; i++) {
            if ((set & 1 << i) != 0 && none(i)) {
                return true;
            }
        }
        return false;
    }

    private boolean notOver(int month) {
        return month < 0 || month > 23 || now < (month + 1) * 30;
    }

    public boolean digs(int owner, int n) {
        if (none(owner) || n < 0 || n > 99) {
            return false;
        }
        owners.get(owner).digs = n;
        return true;
    }

    public boolean rebate(int owner, int r) {
        if (none(owner) || r < 0 || r > 50) {
            return false;
        }
        owners.get(owner).rebate = r;
        return true;
    }

    public boolean breaker(int owner, boolean yes) {
        if (none(owner)) {
            return false;
        }
        owners.get(owner).breaker = yes;
        return true;
    }

    public int ship(int room, int quality) {
        if (room < 8 || room > 96 || quality < 0 || quality > 4 || vessels.size() == 8) {
            return -1;
        }
        Vessel v = new Vessel();
        v.room = room;
        v.least = quality;
        v.came = now;
        vessels.add(v);
        return vessels.size() - 1;
    }

    public boolean keels(int n) {
        if (n < 0 || n > 6) {
            return false;
        }
        keels = n;
        return true;
    }

    public int winds(int wind, int n) {
        if (wind < 0 || wind > 3 || n < 1 || n > 60 || winds.size() + n > 720) {
            return -1;
        }
        for (int i = 0; i < n; i++) {
            winds.add(wind);
        }
        return winds.size();
    }

    public boolean city(int stock, int newWant, int newBase) {
        if (stock < 0 || stock > 99999 || newWant < 0 || newWant > 999 || newBase < 1 || newBase > 999) {
            return false;
        }
        cityStock = stock;
        want = newWant;
        base = newBase;
        return true;
    }

    public int feed(long a, long b, long c) {
        for (long x : new long[] {a, b, c}) {
            for (int i = 7; i >= 0; i--) {
                int sign = (int) (x >> 8 * i) & 0xff;
                if ((sign == 10 || sign >= 32 && sign <= 126) && tape.length() < 1000) {
                    tape.append((char) sign);
                }
            }
        }
        return tape.length();
    }

    // ---- texts

    private static final class Fault extends Exception {
        private static final long serialVersionUID = 1;
        final int number;

        Fault(int kind, int place) {
            number = kind + 16 * place;
        }
    }

    /** kind: w word, n number, s sign, x none, e end */
    private record Token(char kind, String text, int place) {
        boolean is(String s) {
            return (kind == 'w' || kind == 's') && text.equals(s);
        }
    }

    private static List<Token> split(String text) {
        List<Token> tokens = new ArrayList<>();
        int i = 0;
        while (i < text.length()) {
            int from = i;
            char c = text.charAt(i++);
            if (c == ' ' || c == '\n') {
                continue;
            }
            if (LETTERS.indexOf(c) >= 0) {
                while (i < text.length() && LETTERS.indexOf(text.charAt(i)) >= 0) {
                    i++;
                }
                tokens.add(new Token(i - from > 8 ? 'x' : 'w', text.substring(from, i), from));
            } else if (Character.isDigit(c)) {
                while (i < text.length() && Character.isDigit(text.charAt(i))) {
                    i++;
                }
                tokens.add(new Token(i - from > 4 ? 'x' : 'n', text.substring(from, i), from));
            } else {
                tokens.add(new Token("()<=+-*/;".indexOf(c) >= 0 ? 's' : 'x', "" + c, from));
            }
        }
        tokens.add(new Token('e', "", text.length()));
        return tokens;
    }

    private static final class Parser {
        final List<Token> tokens;
        int at;

        Parser(String text) {
            tokens = split(text);
        }

        Token peek() {
            return tokens.get(at);
        }

        Fault wrong(int kind) {
            return new Fault(kind, peek().place());
        }

        void sign(String s) throws Fault {
            if (!peek().is(s)) {
                throw wrong(1);
            }
            at++;
        }

        int number(int most) throws Fault {
            if (peek().kind() != 'n') {
                throw wrong(1);
            }
            int n = Integer.parseInt(peek().text());
            if (n > most) {
                throw wrong(4);
            }
            at++;
            return n;
        }

        PactText pactText() throws Fault {
            PactText p = new PactText();
            while (peek().kind() != 'e') {
                String word = peek().text();
                if (peek().kind() != 'w' || !KINDS.contains(word)) {
                    throw wrong(1);
                }
                if (p.lines.containsKey(word) || word.equals("rests") && p.rests != null || word.equals("bar") && p.bar != null) {
                    throw wrong(3);
                }
                if (word.equals("fall") && p.falls.size() == 8) {
                    throw wrong(5);
                }
                at++;
                if (word.equals("fall")) {
                    sign("when");
                    p.falls.add(e(0));
                } else if (word.equals("bar")) {
                    p.bar = number(50);
                } else if (word.equals("rests")) {
                    if (!peek().is("might") && !peek().is("quality") && !peek().is("owner")) {
                        throw wrong(1);
                    }
                    p.rests = peek().text();
                    at++;
                } else {
                    p.lines.put(word, e(0));
                }
                sign(";");
            }
            return p;
        }

        LawText lawText() throws Fault {
            LawText l = new LawText();
            boolean duty = false;
            while (peek().kind() != 'e') {
                if (peek().is("void")) {
                    at++;
                    if (peek().kind() != 'w' || !KINDS.contains(peek().text())) {
                        throw wrong(1);
                    }
                    if (!l.voids.add(peek().text())) {
                        throw wrong(3);
                    }
                    at++;
                } else if (peek().is("duty")) {
                    if (duty) {
                        throw wrong(3);
                    }
                    duty = true;
                    at++;
                    l.duty = number(99);
                } else {
                    throw wrong(1);
                }
                sign(";");
            }
            return l;
        }

        private static int bit(boolean b) {
            return b ? 1 : 0;
        }

        Node e(int within) throws Fault {
            Node left = test(within);
            while (peek().is("and") || peek().is("or")) {
                boolean and = peek().is("and");
                at++;
                Node a = left;
                Node b = test(within);
                left = (m, o, over) -> {
                    int x = a.tell(m, o, over);
                    int y = b.tell(m, o, over);
                    return bit(and ? x != 0 && y != 0 : x != 0 || y != 0);
                };
            }
            return left;
        }

        Node test(int within) throws Fault {
            Node a = sum(within);
            if (!peek().is("<") && !peek().is("=")) {
                return a;
            }
            boolean less = peek().is("<");
            at++;
            Node b = sum(within);
            return (m, o, over) -> bit(less ? a.tell(m, o, over) < b.tell(m, o, over) : a.tell(m, o, over) == b.tell(m, o, over));
        }

        Node sum(int within) throws Fault {
            Node left = term(within);
            while (peek().is("+") || peek().is("-")) {
                int sign = peek().is("+") ? 1 : -1;
                at++;
                Node a = left;
                Node b = term(within);
                left = (m, o, over) -> a.tell(m, o, over) + sign * b.tell(m, o, over);
            }
            return left;
        }

        Node term(int within) throws Fault {
            Node left = part(within);
            while (peek().is("*") || peek().is("/")) {
                boolean times = peek().is("*");
                at++;
                Node a = left;
                Node b = part(within);
                left = (m, o, over) -> {
                    int x = a.tell(m, o, over);
                    int y = b.tell(m, o, over);
                    return times ? x * y : y == 0 ? 0 : x / y;
                };
            }
            return left;
        }

        Node part(int within) throws Fault {
            Token t = peek();
            boolean fact = t.kind() == 'w' && FACTS.contains(t.text());
            if (!fact && t.kind() != 'n' && !t.is("not") && !t.is("(")) {
                throw wrong(1);
            }
            if (within == 5) {
                throw wrong(5);
            }
            at++;
            if (t.kind() == 'n') {
                int n = Integer.parseInt(t.text());
                return (m, o, over) -> n;
            }
            if (fact) {
                return (m, o, over) -> m.fact(t.text(), o, over);
            }
            if (t.is("not")) {
                Node a = part(within + 1);
                return (m, o, over) -> bit(a.tell(m, o, over) == 0);
            }
            Node inner = e(within + 1);
            sign(")");
            return inner;
        }
    }

    private int fact(String word, Own o, int over) {
        int month = now / 30;
        switch (word) {
            case "might":
                return o == null ? 0 : o.might;
            case "quality":
                return o == null ? 0 : o.quality;
            case "digs":
                return o == null ? 0 : o.digs;
            case "stock":
                return o == null ? 0 : o.stock;
            case "vended":
                return o == null || month == 0 ? 0 : o.vended[month - 1];
            case "allotted":
                return o == null || month == 0 || pacts[month - 1] == null ? 0 : o.allotted[month - 1];
            case "over":
                return over;
            case "price":
                return price(0);
            case "city":
                return cityStock;
            case "want":
                return want;
            case "ships":
                return (int) vessels.stream().filter(v -> v.where == 0).count();
            case "hungry":
                return hungry.subSet(now - 29, true, now, true).size();
            case "month":
                return month;
            default:
                return Integer.bitCount(breakers());
        }
    }

    public int pact() {
        String text = tape.toString();
        tape.setLength(0);
        try {
            inHand = new Parser(text).pactText();
            return 0;
        } catch (Fault f) {
            return f.number;
        }
    }

    public int law() {
        String text = tape.toString();
        tape.setLength(0);
        try {
            laws.put(now + 1, new Parser(text).lawText());
            return 0;
        } catch (Fault f) {
            return f.number;
        }
    }

    private LawText lawOf(int day) {
        for (int d = day; d > 0; d--) {
            if (laws.containsKey(d)) {
                return laws.get(d);
            }
        }
        return new LawText();
    }

    // ---- days

    private int breakers() {
        int set = 0;
        for (int i = 0; i < owners.size(); i++) {
            if (owners.get(i).breaker) {
                set += 1 << i;
            }
        }
        return set;
    }

    public int days(int n) {
        if (n < 0 || n > 60 || now + n > 720) {
            return -1;
        }
        for (int i = 0; i < n; i++) {
            day(now + 1);
        }
        return now;
    }

    private static int within(int n) {
        return n < 0 ? 0 : n > 9999 ? 9999 : n;
    }

    private void day(int d) {
        LawText law = lawOf(d);
        int month = (d - 1) / 30;
        int wind = allFrost ? 3 : d <= winds.size() ? winds.get(d - 1) : 0;
        if ((d - 1) % 30 == 0) {
            firstDay(month, law);
        }
        for (Own o : owners) {
            o.stock = Math.min(9999, o.stock + o.digs);
        }
        for (int k = 0; k < keels; k++) {
            keel(month);
        }
        for (Vessel v : vessels) {
            sail(v, d, wind, law);
        }
        int use = wind == 3 ? 2 * want : want;
        if (cityStock < use) {
            hungry.add(d);
        }
        cityStock -= Math.min(cityStock, use);
        now = d;
    }

    private void firstDay(int month, LawText law) {
        if (inHand != null) {
            pact = inHand;
            inHand = null;
        }
        if (pact != null && !law.voids.contains("fall")) {
            for (Node f : pact.falls) {
                if (pact != null && f.tell(this, null, 0) != 0) {
                    pact = null;
                }
            }
        }
        pacts[month] = pact;
        if (pact == null) {
            return;
        }
        Node line = law.voids.contains("issue") ? null : pact.lines.get("issue");
        issue = issueInPlace != null ? issueInPlace : line == null ? 9999 : within(line.tell(this, null, 0));
        Node weight = law.voids.contains("weight") ? null : pact.lines.get("weight");
        long[] weights = new long[owners.size()];
        long all = 0;
        for (int i = 0; i < weights.length; i++) {
            weights[i] = weight == null ? 1 : within(weight.tell(this, owners.get(i), 0));
            all += weights[i];
        }
        if (all == 0) {
            return;
        }
        List<Integer> due = new ArrayList<>();
        long left = issue;
        for (int i = 0; i < weights.length; i++) {
            owners.get(i).allotted[month] = (int) (issue * weights[i] / all);
            left -= owners.get(i).allotted[month];
            if (weights[i] > 0) {
                due.add(i);
            }
        }
        String rests = law.voids.contains("rests") || pact.rests == null ? "" : pact.rests;
        long sum = all;
        due.sort((a, b) -> {
            switch (rests) {
                case "might":
                    return owners.get(b).might - owners.get(a).might;
                case "quality":
                    return owners.get(b).quality - owners.get(a).quality;
                case "owner":
                    return 0;
                default:
                    return Long.compare(issue * weights[b] % sum, issue * weights[a] % sum);
            }
        });
        for (int i = 0; left > 0; i++, left--) {
            owners.get(due.get(i % due.size())).allotted[month]++;
        }
    }

    private void keel(int month) {
        List<Vessel> line = new ArrayList<>();
        for (Vessel v : vessels) {
            if (v.where == 0 && v.room >= 8 * v.cargo.size() + 8) {
                line.add(v);
            }
        }
        line.sort((a, b) -> a.came - b.came);
        for (Vessel v : line) {
            for (int k = 0; k < owners.size(); k++) {
                int i = (turn + k) % owners.size();
                Own o = owners.get(i);
                boolean stopped = pact != null && !o.breaker && o.vended[month] + 8 > o.allotted[month];
                if (o.quality >= v.least && o.stock >= 8 && !stopped) {
                    v.cargo.add(i);
                    o.stock -= 8;
                    o.vended[month] += 8;
                    turn = (i + 1) % owners.size();
                    return;
                }
            }
        }
    }

    private void sail(Vessel v, int d, int wind, LawText law) {
        if (v.where == 0 && wind == 1) {
            boolean full = v.room < 8 * v.cargo.size() + 8;
            if (full || !v.cargo.isEmpty() && v.came <= d - 10) {
                v.where = 1;
                v.windDays = 0;
            }
        }
        if (v.where == 2 && wind == 2 && v.came != d) {
            v.where = 3;
            v.windDays = 0;
        }
        if (v.where == 1 && wind == 1 || v.where == 3 && wind == 2) {
            v.windDays++;
            if (v.windDays == 4) {
                v.came = d;
                v.where = (v.where + 1) % 4;
                if (v.where == 2) {
                    sell(v, law);
                }
            }
        }
    }

    private void sell(Vessel v, LawText law) {
        for (int i : v.cargo) {
            Own o = owners.get(i);
            int p = price(o.quality);
            o.gain += 8 * (p - p * o.rebate / 100 - law.duty - o.cost);
            sold++;
        }
        cityStock = Math.min(99999, cityStock + 8 * v.cargo.size());
        v.cargo.clear();
    }

    public int price(int quality) {
        if (quality < 0 || quality > 4) {
            return -1;
        }
        int p = cityStock == 0 && want == 0 ? 0 : base * 60 * want / (cityStock + 30 * want);
        return Math.max(1, p + base * quality / 20);
    }

    // ---- reports and sales

    public int report(int owner, int month, int kind, int n) {
        if (none(owner) || notOver(month) || kind < 0 || kind > 2 || n < 0 || n > 9999 || reports.size() == 200) {
            return -1;
        }
        int low = kind == 0 ? 7 * n : kind == 1 ? n - n / 50 : n / 4;
        int high = kind == 0 ? 9 * n : kind == 1 ? n + n / 50 : (int) Math.ceil(n / 3.0);
        reports.add(new Told(owner, month, now, low, high));
        return reports.size() - 1;
    }

    private int bound(int owner, int month, int t, boolean low) {
        return reports.stream().filter(r -> r.owner == owner && r.month == month && r.day <= t)
                .mapToInt(r -> low ? -r.low : r.high).min().orElse(low ? 0 : 9999) * (low ? -1 : 1);
    }

    public int known(int owner, int month, int t, int what) {
        if (none(owner) || notOver(month) || t < 0 || t > now || what < 0 || what > 2) {
            return -1;
        }
        int low = bound(owner, month, t, true);
        int high = bound(owner, month, t, false);
        return what == 0 ? low : what == 1 ? high : low > high ? 1 : 0;
    }

    public int proved(int owner, int month, int t) {
        if (none(owner) || notOver(month) || t < 0 || t > now) {
            return -1;
        }
        if (known(owner, month, t, 2) == 1 || pacts[month] == null) {
            return 0;
        }
        return Math.max(0, known(owner, month, t, 0) - owners.get(owner).allotted[month]);
    }

    public int fine(int owner, int month) {
        if (none(owner) || notOver(month) || proved(owner, month, now) <= 0 || !fined.add(owner * 100 + month)) {
            return -1;
        }
        Node line = lawOf(now).voids.contains("fine") ? null : pacts[month].lines.get("fine");
        int sum = line == null ? 0 : within(line.tell(this, owners.get(owner), proved(owner, month, now)));
        owners.get(owner).gain -= sum;
        return sum;
    }

    public int sale(int set, int due, int paid) {
        if (set == 0 || noSet(set) || due < 1 || due > 9999 || paid < 1 || paid > 9999 || sales.size() == 60) {
            return -1;
        }
        sales.add(new Sold(set, due, paid));
        return sales.size() - 1;
    }

    private List<Sold> bad() {
        List<Sold> bad = new ArrayList<>();
        if (pact != null && pact.bar != null && !lawOf(now).voids.contains("bar")) {
            for (Sold s : sales) {
                if ((s.due - s.paid) * 100 > s.due * pact.bar) {
                    bad.add(s);
                }
            }
        }
        return bad;
    }

    public int named(int i) {
        List<Sold> bad = bad();
        if (bad.size() < 2) {
            return -1;
        }
        for (int size = 1; size <= 10; size++) {
            int common = -1;
            for (int set = 0; set < 1024; set++) {
                int s = set;
                if (Integer.bitCount(set) == size && bad.stream().allMatch(b -> (b.set & s) != 0)) {
                    common &= set;
                }
            }
            if (common != -1) {
                List<Integer> names = new ArrayList<>();
                for (int o = 0; o < 10; o++) {
                    if ((common & 1 << o) != 0) {
                        names.add(o);
                    }
                }
                return i >= 0 && i < names.size() ? names.get(i) : -1;
            }
        }
        return -1;
    }

    // ---- what if

    private Model after(int set, int n, Integer inPlace, boolean frost) {
        Model m = copy();
        for (int i = 0; i < owners.size(); i++) {
            m.owners.get(i).breaker = (set & 1 << i) != 0;
        }
        m.issueInPlace = inPlace;
        m.allFrost = frost;
        m.days(Math.min(n, 720 - now));
        return m;
    }

    public int whatIf(int set, int owner, int n) throws NoSuchElementException {
        if (noSet(set) || none(owner) || n < 0 || n > 60) {
            throw new NoSuchElementException();
        }
        return after(set, n, null, false).owners.get(owner).gain - owners.get(owner).gain;
    }

    public int tempted(int set, int owner, int n) {
        if (noSet(set) || none(owner) || n < 0 || n > 60) {
            return -1;
        }
        int with = set | 1 << owner;
        return whatIf(with, owner, n) > whatIf(with - (1 << owner), owner, n) ? 1 : 0;
    }

    public int slide(int n, int what) {
        if (n < 1 || n > 30 || what < 0 || what > 1) {
            return -1;
        }
        int set = breakers();
        int steps = 0;
        boolean more = true;
        while (more) {
            more = false;
            for (int o = 0; o < owners.size() && !more; o++) {
                if ((set & 1 << o) == 0 && tempted(set, o, n) == 1) {
                    set += 1 << o;
                    steps++;
                    more = true;
                }
            }
        }
        return what == 0 ? set : steps;
    }

    public int tried(int i) throws NoSuchElementException {
        if (i < 0 || i > 9999) {
            throw new NoSuchElementException();
        }
        return after(breakers(), 30, i, false).owners.stream().mapToInt(o -> o.gain).sum();
    }

    public int best(int s) {
        if (s < 1 || s > 400) {
            return -1;
        }
        int best = 20 * s;
        for (int i = 19 * s; i >= 0; i -= s) {
            if (tried(i) >= tried(best)) {
                best = i;
            }
        }
        return best;
    }

    public int foretold(boolean frost) {
        Integer day = after(breakers(), 60, null, frost).hungry.higher(now);
        return day == null ? -1 : day;
    }

    // ---- what is seen

    public int look(int owner, int what) throws NoSuchElementException {
        if (none(owner) || what < 0 || what > 9) {
            throw new NoSuchElementException();
        }
        Own o = owners.get(owner);
        int month = now == 0 ? 0 : (now - 1) / 30;
        int[] all = {o.stock, o.vended[month], pact == null ? -1 : o.allotted[month], o.gain, o.breaker ? 1 : 0,
            o.quality, o.might, o.digs, o.cost, o.rebate};
        return all[what];
    }

    public int month(int owner, int month, int what) {
        if (none(owner) || notOver(month) || what < 0 || what > 1) {
            return -1;
        }
        Own o = owners.get(owner);
        return what == 0 ? o.vended[month] : pacts[month] == null ? -1 : o.allotted[month];
    }

    public int lies(int ship, int what) {
        if (ship < 0 || ship >= vessels.size() || what < 0 || what > 3) {
            return -1;
        }
        Vessel v = vessels.get(ship);
        int[] all = {v.where, v.cargo.size(), v.where % 2 == 1 ? 4 - v.windDays : 0, v.came};
        return all[what];
    }

    public int load(int ship, int i) {
        if (ship < 0 || ship >= vessels.size() || i < 0 || i >= vessels.get(ship).cargo.size()) {
            return -1;
        }
        return vessels.get(ship).cargo.get(i);
    }

    public int count(int what) {
        int[] all = {now, owners.size(), vessels.size(), keels, cityStock, pact == null ? 0 : 1, pact == null ? -1 : issue,
            reports.size(), sales.size(), bad().size(), hungry.size(), turn, Integer.bitCount(breakers()), tape.length(),
            winds.size(), sold, inHand == null ? 0 : 1};
        return what < 0 || what >= all.length ? -1 : all[what];
    }
}
