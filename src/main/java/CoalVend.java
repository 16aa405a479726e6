import java.util.Arrays;
import java.util.NoSuchElementException;

/**
 * The vend of coal: owners of pits, their pact, keels, ships, winds, a city, and what breaking the pact would gain.
 * The words in capitals in the comments are those of the document.
 */
public final class CoalVend {
    public static final int NONE = -1;

    private static final int OWNERS = 10;
    private static final int SHIPS = 8;
    private static final int LOAD = 8;
    private static final int LAST_DAY = 720;
    private static final int MONTH_DAYS = 30;
    private static final int MONTHS = 24;
    private static final int MOST = 9999;
    private static final int TAPE_SIGNS = 1000;

    private static final int RIVER = 0;
    private static final int WAY_OUT = 1;
    private static final int CITY = 2;
    private static final int WAY_HOME = 3;

    private static final int CALM = 0;
    private static final int WIND_OUT = 1;
    private static final int WIND_HOME = 2;
    private static final int FROST = 3;

    // Each word of the language has a column of eight signs; its number is that of its column.
    private static final String WORDS = "weight  issue   fine    fall    rests   bar     when    void    duty    and     or      not     owner   might   quality digs    stock   vended  allottedover    price   city    want    ships   hungry  month   breakers";
    private static final int WORD_SIGNS = 8;
    private static final int WEIGHT = 0;
    private static final int ISSUE = 1;
    private static final int FINE = 2;
    private static final int FALL = 3;
    private static final int RESTS = 4;
    private static final int BAR = 5;
    private static final int WHEN = 6;
    private static final int VOID = 7;
    private static final int DUTY = 8;
    private static final int AND = 9;
    private static final int OR = 10;
    private static final int NOT = 11;
    private static final int OWNER = 12;
    private static final int MIGHT = 13;
    private static final int QUALITY = 14;
    private static final int DIGS = 15;
    private static final int STOCK = 16;
    private static final int VENDED = 17;
    private static final int ALLOTTED = 18;
    private static final int OVER = 19;
    private static final int PRICE = 20;
    private static final int CITY_STOCK = 21;
    private static final int WANT = 22;
    private static final int SHIPS_HERE = 23;
    private static final int HUNGRY = 24;
    private static final int MONTH = 25;
    private static final int BREAKERS = 26;

    // Tokens that are no words: the signs stand for themselves, all above these.
    private static final int NUMBER = 30;
    private static final int WRONG = 31;
    private static final int END = 32;

    private static final int FAULT_MISPLACED = 1;
    private static final int FAULT_TOLD = 3;
    private static final int FAULT_NUMBER = 4;
    private static final int FAULT_TOO_MANY = 5;

    // What a code holds: numbers as they are (0 to 9999), facts and operators above them, by their tokens.
    private static final int FACT_CODES = 10000;
    private static final int OPERATOR_CODES = 20000;

    private final World world = new World();
    private final World trial = new World();
    private final Reader reader = new Reader();
    private final Months months = new Months();
    private final Reports reports = new Reports();
    private final Sales sales = new Sales();
    private final byte[] winds = new byte[LAST_DAY];
    private int windsTold;
    private final int[] gainsUnbroken = new int[OWNERS];

    public CoalVend() {
    }

    public int owner(int quality, int might, int digs, int cost) {
        boolean right = isWithin(quality, 0, 4) && isWithin(might, 1, 999) && isWithin(digs, 0, 99) && isWithin(cost, 0, 99);
        if (!right || world.ownerCount >= OWNERS) {
            return NONE;
        }
        Owner told = world.owners[world.ownerCount];
        told.quality = quality;
        told.might = might;
        told.digs = digs;
        told.cost = cost;
        return world.ownerCount++;
    }

    public boolean digs(int owner, int n) {
        if (!isOwner(owner) || !isWithin(n, 0, 99)) {
            return false;
        }
        world.owners[owner].digs = n;
        return true;
    }

    public boolean rebate(int owner, int r) {
        if (!isOwner(owner) || !isWithin(r, 0, 50)) {
            return false;
        }
        world.owners[owner].rebate = r;
        return true;
    }

    public boolean breaker(int owner, boolean yes) {
        if (!isOwner(owner)) {
            return false;
        }
        world.owners[owner].breaker = yes;
        return true;
    }

    public int ship(int room, int quality) {
        if (!isWithin(room, 8, 96) || !isWithin(quality, 0, 4) || world.shipCount >= SHIPS) {
            return NONE;
        }
        Ship told = world.ships[world.shipCount];
        told.room = room;
        told.least = quality;
        told.came = world.now;
        return world.shipCount++;
    }

    public boolean keels(int n) {
        if (!isWithin(n, 0, 6)) {
            return false;
        }
        world.keels = n;
        return true;
    }

    public int winds(int wind, int n) {
        if (!isWithin(wind, CALM, FROST) || !isWithin(n, 1, 60) || windsTold + n > winds.length) {
            return NONE;
        }
        for (int i = windsTold; i < windsTold + n; i++) {
            winds[i] = (byte) wind;
        }
        windsTold += n;
        return windsTold;
    }

    public boolean city(int stock, int want, int base) {
        if (!isWithin(stock, 0, 99999) || !isWithin(want, 0, 999) || !isWithin(base, 1, 999)) {
            return false;
        }
        world.city.stock = stock;
        world.city.want = want;
        world.city.base = base;
        return true;
    }

    public int feed(long a, long b, long c) {
        reader.addBytes(a);
        reader.addBytes(b);
        reader.addBytes(c);
        return reader.length;
    }

    public int pact() {
        Pact read = reader.readPact();
        if (read != null) {
            world.inHand = read;
        }
        return reader.fault;
    }

    public int law() {
        Law read = reader.readLaw();
        if (read != null) {
            world.nextLaw = read;
        }
        return reader.fault;
    }

    public int days(int n) {
        if (!isWithin(n, 0, 60) || world.now + n > LAST_DAY) {
            return NONE;
        }
        for (int i = 0; i < n; i++) {
            world.passDay(windOf(world.now + 1));
            if (world.now % MONTH_DAYS == 0) {
                months.keep(world);
            }
        }
        return world.now;
    }

    public int price(int quality) {
        return isWithin(quality, 0, 4) ? world.city.priceOf(quality) : NONE;
    }

    public int report(int owner, int month, int kind, int n) {
        if (!isOwner(owner) || !isOver(month) || !isWithin(kind, 0, 2) || !isWithin(n, 0, MOST)) {
            return NONE;
        }
        return reports.add(months.place(owner, month), world.now, lowOf(kind, n), highOf(kind, n));
    }

    public int known(int owner, int month, int t, int what) {
        if (!isOwner(owner) || !isOver(month) || !isWithin(t, 0, world.now) || !isWithin(what, 0, 2)) {
            return NONE;
        }
        reports.sumUp(months.place(owner, month), t);
        switch (what) {
            case 0:
                return reports.low;
            case 1:
                return reports.high;
            default:
                return reports.low > reports.high ? 1 : 0;
        }
    }

    public int proved(int owner, int month, int t) {
        if (!isOwner(owner) || !isOver(month) || !isWithin(t, 0, world.now)) {
            return NONE;
        }
        return provedOn(owner, month, t);
    }

    public int fine(int owner, int month) {
        if (!isOwner(owner) || !isOver(month) || months.fined[months.place(owner, month)]) {
            return NONE;
        }
        int over = provedOn(owner, month, world.now);
        if (over == 0) {
            return NONE;
        }
        months.fined[months.place(owner, month)] = true;
        int sum = world.fineBy(months.pacts[month], world.owners[owner], over);
        world.owners[owner].gain -= sum;
        return sum;
    }

    public int sale(int set, int due, int paid) {
        if (!isSet(set) || set == 0 || !isWithin(due, 1, MOST) || !isWithin(paid, 1, MOST)) {
            return NONE;
        }
        return sales.add(set, due, paid);
    }

    public int named(int i) {
        int set = sales.inEachFewest(world.barNow());
        int seen = 0;
        for (int o = 0; o < OWNERS; o++) {
            if ((set >> o & 1) == 1) {
                if (seen == i) {
                    return o;
                }
                seen++;
            }
        }
        return NONE;
    }

    public int whatIf(int set, int owner, int n) throws NoSuchElementException {
        if (!isSet(set) || !isOwner(owner) || !isWithin(n, 0, 60)) {
            throw new NoSuchElementException("no such set, owner or n");
        }
        runTrial(set, NONE, n);
        return trial.owners[owner].gain - world.owners[owner].gain;
    }

    public int tempted(int set, int owner, int n) {
        if (!isSet(set) || !isOwner(owner) || !isWithin(n, 0, 60)) {
            return NONE;
        }
        runTrial(set & ~(1 << owner), NONE, n);
        int unbroken = trial.owners[owner].gain;
        runTrial(set | 1 << owner, NONE, n);
        return trial.owners[owner].gain > unbroken ? 1 : 0;
    }

    public int slide(int n, int what) {
        if (!isWithin(n, 1, 30) || !isWithin(what, 0, 1)) {
            return NONE;
        }
        int set = world.breakerSet();
        int steps = 0;
        for (int i = 0; i < OWNERS; i++) {
            int next = leastTempted(set, n);
            if (next == NONE) {
                break;
            }
            set |= 1 << next;
            steps++;
        }
        return what == 0 ? set : steps;
    }

    public int tried(int issue) throws NoSuchElementException {
        if (!isWithin(issue, 0, MOST)) {
            throw new NoSuchElementException("no such issue");
        }
        return gainsWith(issue);
    }

    public int best(int s) {
        if (!isWithin(s, 1, 400)) {
            return NONE;
        }
        int bestIssue = 0;
        int most = gainsWith(0);
        for (int i = 1; i <= 20; i++) {
            int sum = gainsWith(i * s);
            if (sum > most) {
                most = sum;
                bestIssue = i * s;
            }
        }
        return bestIssue;
    }

    public int foretold(boolean frost) {
        trial.copyFrom(world);
        for (int i = 0; i < 60 && trial.now < LAST_DAY; i++) {
            trial.passDay(frost ? FROST : windOf(trial.now + 1));
            if (trial.city.wasHungry()) {
                return trial.now;
            }
        }
        return NONE;
    }

    public int look(int owner, int what) throws NoSuchElementException {
        if (!isOwner(owner) || !isWithin(what, 0, 9)) {
            throw new NoSuchElementException("no such owner or what");
        }
        Owner seen = world.owners[owner];
        switch (what) {
            case 0:
                return seen.stock;
            case 1:
                return seen.vended;
            case 2:
                return world.pact == null ? NONE : seen.allotment;
            case 3:
                return seen.gain;
            case 4:
                return seen.breaker ? 1 : 0;
            case 5:
                return seen.quality;
            case 6:
                return seen.might;
            case 7:
                return seen.digs;
            case 8:
                return seen.cost;
            default:
                return seen.rebate;
        }
    }

    public int month(int owner, int month, int what) {
        if (!isOwner(owner) || !isOver(month) || !isWithin(what, 0, 1)) {
            return NONE;
        }
        if (what == 0) {
            return months.vended[months.place(owner, month)];
        }
        return months.pacts[month] == null ? NONE : months.allotted[months.place(owner, month)];
    }

    public int lies(int ship, int what) {
        if (!isShip(ship)) {
            return NONE;
        }
        Ship seen = world.ships[ship];
        switch (what) {
            case 0:
                return seen.place;
            case 1:
                return seen.loads;
            case 2:
                return seen.left;
            case 3:
                return seen.came;
            default:
                return NONE;
        }
    }

    public int load(int ship, int i) {
        if (!isShip(ship) || i < 0 || i >= world.ships[ship].loads) {
            return NONE;
        }
        return world.ships[ship].cargo[i];
    }

    public int count(int what) {
        switch (what) {
            case 0:
                return world.now;
            case 1:
                return world.ownerCount;
            case 2:
                return world.shipCount;
            case 3:
                return world.keels;
            case 4:
                return world.city.stock;
            case 5:
                return world.pact == null ? 0 : 1;
            case 6:
                return world.pact == null ? NONE : world.issue;
            case 7:
                return reports.count;
            case 8:
                return sales.count;
            default:
                return countMore(what);
        }
    }

    private int countMore(int what) {
        switch (what) {
            case 9:
                return sales.countBad(world.barNow());
            case 10:
                return world.city.hungryDays;
            case 11:
                return world.turn;
            case 12:
                return Integer.bitCount(world.breakerSet());
            case 13:
                return reader.length;
            case 14:
                return windsTold;
            case 15:
                return world.sold;
            case 16:
                return world.inHand == null ? 0 : 1;
            default:
                return NONE;
        }
    }

    private static boolean isWithin(int n, int least, int most) {
        return n >= least && n <= most;
    }

    private boolean isOwner(int owner) {
        return owner >= 0 && owner < world.ownerCount;
    }

    private boolean isShip(int ship) {
        return ship >= 0 && ship < world.shipCount;
    }

    private boolean isSet(int set) {
        return set >= 0 && set >> world.ownerCount == 0;
    }

    private boolean isOver(int month) {
        return month >= 0 && month < world.now / MONTH_DAYS;
    }

    private int windOf(int day) {
        return day >= 1 && day <= windsTold ? winds[day - 1] : CALM;
    }

    private static int lowOf(int kind, int n) {
        switch (kind) {
            case 0:
                return 7 * n;
            case 1:
                return n - n / 50;
            default:
                return n / 4;
        }
    }

    private static int highOf(int kind, int n) {
        switch (kind) {
            case 0:
                return 9 * n;
            case 1:
                return n + n / 50;
            default:
                return (n + 2) / 3;
        }
    }

    private int provedOn(int owner, int month, int t) {
        int place = months.place(owner, month);
        reports.sumUp(place, t);
        if (reports.low > reports.high || months.pacts[month] == null) {
            return 0;
        }
        return Math.max(0, reports.low - months.allotted[place]);
    }

    /** Runs WHAT IF in the trial world; an issue that is not NONE stands in place of the pact's. */
    private void runTrial(int set, int issue, int n) {
        trial.copyFrom(world);
        trial.setBreakers(set);
        trial.issueTried = issue;
        for (int i = 0; i < n && trial.now < LAST_DAY; i++) {
            trial.passDay(windOf(trial.now + 1));
        }
    }

    private int gainsWith(int issue) {
        runTrial(world.breakerSet(), issue, 30);
        int sum = 0;
        for (int o = 0; o < trial.ownerCount; o++) {
            sum += trial.owners[o].gain;
        }
        return sum;
    }

    private int leastTempted(int set, int n) {
        // One run serves as "if it does not break" for all that are no breakers.
        runTrial(set, NONE, n);
        for (int o = 0; o < trial.ownerCount; o++) {
            gainsUnbroken[o] = trial.owners[o].gain;
        }
        for (int o = 0; o < world.ownerCount; o++) {
            if ((set >> o & 1) == 0) {
                runTrial(set | 1 << o, NONE, n);
                if (trial.owners[o].gain > gainsUnbroken[o]) {
                    return o;
                }
            }
        }
        return NONE;
    }

    private static final class Owner {
        int quality;
        int might;
        int digs;
        int cost;
        int rebate;
        boolean breaker;
        int stock;
        int vended;
        int allotment;
        int gain;
        // Of the month ahead of that of day NOW + 1.
        int lastVended;
        int lastAllotted;
        int weight;
        // The place in the order of rests: the greatest first; below 0 none is due.
        int claim;

        void copyFrom(Owner other) {
            quality = other.quality;
            might = other.might;
            digs = other.digs;
            cost = other.cost;
            rebate = other.rebate;
            breaker = other.breaker;
            stock = other.stock;
            vended = other.vended;
            allotment = other.allotment;
            gain = other.gain;
            lastVended = other.lastVended;
            lastAllotted = other.lastAllotted;
        }
    }

    private static final class Ship {
        int room;
        int least;
        int place;
        int left;
        int came;
        int loads;
        final int[] cargo = new int[12];

        boolean hasRoom() {
            return room - LOAD * loads >= LOAD && loads < cargo.length;
        }

        void take(int owner) {
            if (loads < cargo.length) {
                cargo[loads] = owner;
                loads++;
            }
        }

        /** Sails or lies still for a day; true if it comes to the city on it. */
        boolean comesToCity(int wind, int day) {
            boolean due = !hasRoom() || loads > 0 && day - came >= 10;
            if (wind == WIND_OUT && place == RIVER && due) {
                place = WAY_OUT;
                left = 4;
            } else if (wind == WIND_HOME && place == CITY && came < day) {
                place = WAY_HOME;
                left = 4;
            }
            boolean sails = wind == WIND_OUT && place == WAY_OUT || wind == WIND_HOME && place == WAY_HOME;
            if (!sails) {
                return false;
            }
            left--;
            if (left > 0) {
                return false;
            }
            place = place == WAY_OUT ? CITY : RIVER;
            came = day;
            return place == CITY;
        }

        void copyFrom(Ship other) {
            room = other.room;
            least = other.least;
            place = other.place;
            left = other.left;
            came = other.came;
            loads = other.loads;
            System.arraycopy(other.cargo, 0, cargo, 0, cargo.length);
        }
    }

    private static final class City {
        int stock;
        int want = 20;
        int base = 100;
        int hungryDays;
        // One bit a day, the last day lowest.
        private int lastHungry;

        int priceOf(int quality) {
            int share = stock + 30 * want;
            int plain = share == 0 ? 0 : base * 60 * want / share;
            return Math.max(1, plain + base * quality / 20);
        }

        void addLoads(int loads) {
            stock = Math.min(99999, stock + LOAD * loads);
        }

        void useWant(boolean frost) {
            int use = frost ? 2 * want : want;
            boolean hungry = stock < use;
            stock = hungry ? 0 : stock - use;
            lastHungry = (lastHungry << 1 | (hungry ? 1 : 0)) & (1 << MONTH_DAYS) - 1;
            hungryDays += hungry ? 1 : 0;
        }

        boolean wasHungry() {
            return (lastHungry & 1) == 1;
        }

        int hungryOfLast30() {
            return Integer.bitCount(lastHungry);
        }

        void copyFrom(City other) {
            stock = other.stock;
            want = other.want;
            base = other.base;
            hungryDays = other.hungryDays;
            lastHungry = other.lastHungry;
        }
    }

    /** A pact as it was read; it is not changed then, so a copy of the world may share it. */
    private static final class Pact {
        // Codes of the lines, null for one that was not told; all fall lines are in one, joined by "or".
        int[] weight;
        int[] issue;
        int[] fine;
        int[] fall;
        int falls;
        int rests = NONE;
        int bar = NONE;

        boolean hasTold(int kind) {
            switch (kind) {
                case WEIGHT:
                    return weight != null;
                case ISSUE:
                    return issue != null;
                case FINE:
                    return fine != null;
                case RESTS:
                    return rests != NONE;
                case BAR:
                    return bar != NONE;
                default:
                    return false;
            }
        }

        void setLine(int kind, int[] code) {
            if (kind == WEIGHT) {
                weight = code;
            } else if (kind == ISSUE) {
                issue = code;
            } else {
                fine = code;
            }
        }

        void addFall(int[] code) {
            falls++;
            if (fall == null || code == null) {
                fall = code;
                return;
            }
            int[] joined = Arrays.copyOf(fall, fall.length + code.length + 1);
            System.arraycopy(code, 0, joined, fall.length, code.length);
            joined[joined.length - 1] = OPERATOR_CODES + OR;
            fall = joined;
        }
    }

    private static final class Law {
        final int voids;
        final int duty;

        Law(int voids, int duty) {
            this.voids = voids;
            this.duty = duty;
        }

        boolean isVoid(int kind) {
            return (voids >> kind & 1) == 1;
        }
    }

    /** Works out the codes of a pact's lines on the facts that were put in it. */
    private static final class Reckoner {
        private final int[] facts = new int[BREAKERS - MIGHT + 1];
        private final int[] stack = new int[64];

        void setFact(int fact, int n) {
            if (fact >= MIGHT && fact <= BREAKERS) {
                facts[fact - MIGHT] = n;
            }
        }

        void clear() {
            Arrays.fill(facts, 0);
        }

        void setOwner(Owner owner) {
            setFact(MIGHT, owner.might);
            setFact(QUALITY, owner.quality);
            setFact(DIGS, owner.digs);
            setFact(STOCK, owner.stock);
            setFact(VENDED, owner.lastVended);
            setFact(ALLOTTED, owner.lastAllotted);
        }

        /** What the code of a line tells; null is a line that was not told. */
        int reckon(int[] code, int untold) {
            if (code == null) {
                return untold;
            }
            int top = 0;
            for (int i = 0; i < code.length; i++) {
                int c = code[i];
                if (c < OPERATOR_CODES) {
                    if (top < stack.length) {
                        stack[top] = c < FACT_CODES ? c : factOf(c - FACT_CODES);
                        top++;
                    }
                } else if (c == OPERATOR_CODES + NOT) {
                    if (top > 0) {
                        stack[top - 1] = stack[top - 1] == 0 ? 1 : 0;
                    }
                } else if (top > 1) {
                    top--;
                    stack[top - 1] = combine(c - OPERATOR_CODES, stack[top - 1], stack[top]);
                }
            }
            return top > 0 ? stack[top - 1] : untold;
        }

        private int factOf(int fact) {
            return fact >= MIGHT && fact <= BREAKERS ? facts[fact - MIGHT] : 0;
        }

        private static int combine(int operator, int a, int b) {
            switch (operator) {
                case AND:
                    return a != 0 && b != 0 ? 1 : 0;
                case OR:
                    return a != 0 || b != 0 ? 1 : 0;
                case '<':
                    return a < b ? 1 : 0;
                case '=':
                    return a == b ? 1 : 0;
                case '+':
                    return a + b;
                case '-':
                    return a - b;
                case '*':
                    return a * b;
                default:
                    return b == 0 ? 0 : a / b;
            }
        }
    }

    /** All that goes on by itself from day to day; WHAT IF runs a second one. */
    private static final class World {
        int now;
        final Owner[] owners = new Owner[OWNERS];
        int ownerCount;
        final Ship[] ships = new Ship[SHIPS];
        int shipCount;
        int keels = 2;
        int turn;
        int sold;
        final City city = new City();
        Law law = new Law(0, 0);
        Law nextLaw = law;
        Pact pact;
        Pact inHand;
        int issue;
        int issueTried = NONE;
        private final Reckoner reckoner = new Reckoner();
        private final int[] waiting = new int[SHIPS];

        World() {
            for (int i = 0; i < OWNERS; i++) {
                owners[i] = new Owner();
            }
            for (int i = 0; i < SHIPS; i++) {
                ships[i] = new Ship();
            }
        }

        void copyFrom(World other) {
            now = other.now;
            ownerCount = other.ownerCount;
            for (int i = 0; i < ownerCount; i++) {
                owners[i].copyFrom(other.owners[i]);
            }
            shipCount = other.shipCount;
            for (int i = 0; i < shipCount; i++) {
                ships[i].copyFrom(other.ships[i]);
            }
            keels = other.keels;
            turn = other.turn;
            sold = other.sold;
            city.copyFrom(other.city);
            law = other.law;
            nextLaw = other.nextLaw;
            pact = other.pact;
            inHand = other.inHand;
            issue = other.issue;
            issueTried = NONE;
        }

        int breakerSet() {
            int set = 0;
            for (int i = 0; i < ownerCount; i++) {
                set |= owners[i].breaker ? 1 << i : 0;
            }
            return set;
        }

        void setBreakers(int set) {
            for (int i = 0; i < ownerCount; i++) {
                owners[i].breaker = (set >> i & 1) == 1;
            }
        }

        int barNow() {
            return pact == null || law.isVoid(BAR) ? NONE : pact.bar;
        }

        int fineBy(Pact held, Owner owner, int over) {
            if (held == null || law.isVoid(FINE)) {
                return 0;
            }
            tellFacts();
            reckoner.setOwner(owner);
            reckoner.setFact(OVER, over);
            return limited(reckoner.reckon(held.fine, 0));
        }

        /** Passes the day behind NOW; NOW is told on only at its end, since the facts of a month's first day want it so. */
        void passDay(int wind) {
            law = nextLaw;
            if (now % MONTH_DAYS == 0) {
                renewPact();
                if (pact != null) {
                    divideIssue(weighOwners());
                }
                for (int i = 0; i < ownerCount; i++) {
                    owners[i].vended = 0;
                }
            }
            for (int i = 0; i < ownerCount; i++) {
                owners[i].stock = Math.min(MOST, owners[i].stock + owners[i].digs);
            }
            loadShips();
            moveShips(wind);
            city.useWant(wind == FROST);
            now++;
            if (now % MONTH_DAYS == 0) {
                keepMonth();
            }
        }

        private void renewPact() {
            if (inHand != null) {
                pact = inHand;
                inHand = null;
            }
            if (pact == null) {
                return;
            }
            tellFacts();
            int falls = law.isVoid(FALL) ? 0 : reckoner.reckon(pact.fall, 0);
            if (falls != 0) {
                pact = null;
                return;
            }
            int told = reckoner.reckon(law.isVoid(ISSUE) ? null : pact.issue, MOST);
            issue = issueTried != NONE ? issueTried : limited(told);
        }

        private void tellFacts() {
            int atRiver = 0;
            for (int i = 0; i < shipCount; i++) {
                atRiver += ships[i].place == RIVER ? 1 : 0;
            }
            reckoner.clear();
            reckoner.setFact(PRICE, city.priceOf(0));
            reckoner.setFact(CITY_STOCK, city.stock);
            reckoner.setFact(WANT, city.want);
            reckoner.setFact(SHIPS_HERE, atRiver);
            reckoner.setFact(HUNGRY, city.hungryOfLast30());
            reckoner.setFact(MONTH, now / MONTH_DAYS);
            reckoner.setFact(BREAKERS, Integer.bitCount(breakerSet()));
        }

        private static int limited(int n) {
            return Math.max(0, Math.min(MOST, n));
        }

        private int weighOwners() {
            int[] line = law.isVoid(WEIGHT) ? null : pact.weight;
            int sum = 0;
            for (int i = 0; i < ownerCount; i++) {
                reckoner.setOwner(owners[i]);
                owners[i].weight = limited(reckoner.reckon(line, 1));
                sum += owners[i].weight;
            }
            return sum;
        }

        private void divideIssue(int sum) {
            if (sum == 0) {
                for (int i = 0; i < ownerCount; i++) {
                    owners[i].allotment = 0;
                }
                return;
            }
            int rests = law.isVoid(RESTS) ? NONE : pact.rests;
            int left = issue;
            for (int i = 0; i < ownerCount; i++) {
                Owner owner = owners[i];
                owner.allotment = issue * owner.weight / sum;
                owner.claim = owner.weight == 0 ? NONE : claimOf(owner, rests, issue * owner.weight % sum);
                left -= owner.allotment;
            }
            giveRests(left);
        }

        private static int claimOf(Owner owner, int rests, int rest) {
            switch (rests) {
                case MIGHT:
                    return owner.might;
                case QUALITY:
                    return owner.quality;
                case OWNER:
                    return 0;
                default:
                    return rest;
            }
        }

        /** What is left is always less than there are owners with a weight, so nobody's turn comes twice. */
        private void giveRests(int left) {
            for (int given = 0; given < left && given < ownerCount; given++) {
                int first = NONE;
                for (int i = 0; i < ownerCount; i++) {
                    if (owners[i].claim >= 0 && (first == NONE || owners[i].claim > owners[first].claim)) {
                        first = i;
                    }
                }
                if (first == NONE) {
                    return;
                }
                owners[first].allotment++;
                owners[first].claim = NONE;
            }
        }

        private void loadShips() {
            int ready = lineUp();
            for (int k = 0; k < keels; k++) {
                boolean loaded = false;
                for (int i = 0; i < ready && !loaded; i++) {
                    loaded = loadShip(ships[waiting[i]]);
                }
                if (!loaded) {
                    return;
                }
            }
        }

        /** Puts the ships that can be loaded in line, by the day on which they came, then by numbers: how many. */
        private int lineUp() {
            int ready = 0;
            for (int i = 0; i < shipCount; i++) {
                if (ships[i].place == RIVER && ships[i].hasRoom()) {
                    int at = ready;
                    while (at > 0 && ships[waiting[at - 1]].came > ships[i].came) {
                        waiting[at] = waiting[at - 1];
                        at--;
                    }
                    waiting[at] = i;
                    ready++;
                }
            }
            return ready;
        }

        private boolean loadShip(Ship ship) {
            int from = ship.hasRoom() ? nextOwnerFor(ship.least) : NONE;
            if (from == NONE) {
                return false;
            }
            ship.take(from);
            owners[from].stock -= LOAD;
            owners[from].vended += LOAD;
            turn = from + 1 < ownerCount ? from + 1 : 0;
            return true;
        }

        private int nextOwnerFor(int least) {
            for (int k = 0; k < ownerCount; k++) {
                int i = (turn + k) % ownerCount;
                Owner owner = owners[i];
                boolean stopped = pact != null && !owner.breaker && owner.vended + LOAD > owner.allotment;
                if (owner.quality >= least && owner.stock >= LOAD && !stopped) {
                    return i;
                }
            }
            return NONE;
        }

        private void moveShips(int wind) {
            for (int i = 0; i < shipCount; i++) {
                if (ships[i].comesToCity(wind, now + 1)) {
                    sellLoads(ships[i]);
                }
            }
        }

        private void sellLoads(Ship ship) {
            for (int i = 0; i < ship.loads; i++) {
                Owner owner = owners[ship.cargo[i]];
                int each = city.priceOf(owner.quality);
                owner.gain += LOAD * (each - each * owner.rebate / 100 - law.duty - owner.cost);
            }
            city.addLoads(ship.loads);
            sold += ship.loads;
            ship.loads = 0;
        }

        private void keepMonth() {
            for (int i = 0; i < ownerCount; i++) {
                owners[i].lastVended = owners[i].vended;
                owners[i].lastAllotted = pact == null ? 0 : owners[i].allotment;
            }
        }
    }

    /** The tape, and what reads it: a text is taken token by token, and the first fault found is kept. */
    private static final class Reader {
        private static final int COMPARING = 2;
        private final char[] signs = new char[TAPE_SIGNS];
        int length;
        int fault;
        private int token;
        private int number;
        private int place;
        private int behind;
        private final int[] code = new int[TAPE_SIGNS];
        private int codeLength;
        // Operators, "not" and "(" that wait for what stands behind them.
        private final int[] waiting = new int[64];
        private int waits;
        private boolean wantsPart;
        private int open;
        private int around;

        void addBytes(long eight) {
            for (int shift = 56; shift >= 0; shift -= 8) {
                int sign = (int) (eight >>> shift & 255);
                boolean right = sign == 10 || sign >= 32 && sign <= 126;
                if (right && length < signs.length) {
                    signs[length] = (char) sign;
                    length++;
                }
            }
        }

        /** The pact on the tape, null with a fault. */
        Pact readPact() {
            start();
            Pact draft = new Pact();
            for (int i = 0; i < TAPE_SIGNS && token != END && fault == 0; i++) {
                readPactLine(draft);
            }
            length = 0;
            return fault == 0 ? draft : null;
        }

        private void readPactLine(Pact draft) {
            int kind = token;
            if (kind > BAR) {
                refuse(FAULT_MISPLACED);
            } else if (draft.hasTold(kind)) {
                refuse(FAULT_TOLD);
            } else if (kind == FALL && draft.falls >= 8) {
                refuse(FAULT_TOO_MANY);
            }
            if (fault != 0) {
                return;
            }
            next();
            switch (kind) {
                case FALL:
                    expect(WHEN);
                    draft.addFall(readExpression());
                    break;
                case RESTS:
                    draft.rests = token;
                    if (token != MIGHT && token != QUALITY && token != OWNER) {
                        refuse(FAULT_MISPLACED);
                    }
                    next();
                    break;
                case BAR:
                    draft.bar = readNumber(50);
                    break;
                default:
                    draft.setLine(kind, readExpression());
            }
            expect(';');
        }

        /** The law on the tape, null with a fault. */
        Law readLaw() {
            start();
            int voids = 0;
            int duty = NONE;
            for (int i = 0; i < TAPE_SIGNS && token != END && fault == 0; i++) {
                if (token == VOID) {
                    next();
                    voids |= readVoidKind(voids);
                } else if (token == DUTY && duty == NONE) {
                    next();
                    duty = readNumber(99);
                } else {
                    refuse(token == DUTY ? FAULT_TOLD : FAULT_MISPLACED);
                }
                expect(';');
            }
            length = 0;
            return fault == 0 ? new Law(voids, Math.max(0, duty)) : null;
        }

        private int readVoidKind(int voids) {
            if (token > BAR) {
                refuse(FAULT_MISPLACED);
                return 0;
            }
            if ((voids >> token & 1) == 1) {
                refuse(FAULT_TOLD);
            }
            int kind = 1 << token;
            next();
            return kind;
        }

        private int readNumber(int most) {
            int told = number;
            if (token != NUMBER) {
                refuse(FAULT_MISPLACED);
            } else if (told > most) {
                refuse(FAULT_NUMBER);
            }
            next();
            return told;
        }

        private void expect(int wanted) {
            if (token != wanted) {
                refuse(FAULT_MISPLACED);
            }
            next();
        }

        private void refuse(int kind) {
            if (fault == 0) {
                fault = kind + 16 * place;
            }
        }

        /** The code of an E, its operators behind what they combine; null with a fault. */
        private int[] readExpression() {
            codeLength = 0;
            waits = 0;
            wantsPart = true;
            open = 0;
            around = 0;
            for (int i = 0; i < TAPE_SIGNS && fault == 0; i++) {
                boolean taken = wantsPart ? takePart() : token == ')' ? closePart() : takeOperator();
                if (!taken) {
                    break;
                }
                next();
            }
            if (wantsPart || open > 0) {
                refuse(FAULT_MISPLACED);
            }
            if (fault != 0) {
                return null;
            }
            for (; waits > 0; waits--) {
                emit(OPERATOR_CODES + waiting[waits - 1]);
            }
            return Arrays.copyOf(code, codeLength);
        }

        private boolean takePart() {
            boolean fact = token >= MIGHT && token <= BREAKERS;
            boolean encloses = token == NOT || token == '(';
            if (!fact && !encloses && token != NUMBER) {
                return false;
            }
            if (around >= 5) {
                refuse(FAULT_TOO_MANY);
                return false;
            }
            if (encloses) {
                around++;
                open += token == '(' ? 1 : 0;
                pushWaiting();
                return true;
            }
            emit(fact ? FACT_CODES + token : number);
            endPart();
            return true;
        }

        private boolean closePart() {
            if (open == 0) {
                return false;
            }
            for (; waits > 0 && waiting[waits - 1] != '('; waits--) {
                emit(OPERATOR_CODES + waiting[waits - 1]);
            }
            waits = Math.max(0, waits - 1);
            open--;
            around--;
            endPart();
            return true;
        }

        /** A part that ends is all that each "not" right ahead of it was waiting for. */
        private void endPart() {
            wantsPart = false;
            for (; waits > 0 && waiting[waits - 1] == NOT; waits--) {
                emit(OPERATOR_CODES + waiting[waits - 1]);
                around--;
            }
        }

        private boolean takeOperator() {
            int rank = rankOf(token);
            if (rank == 0) {
                return false;
            }
            for (; waits > 0 && rankOf(waiting[waits - 1]) >= rank; waits--) {
                if (rank == COMPARING && rankOf(waiting[waits - 1]) == COMPARING) {
                    return false; // a TEST compares once only
                }
                emit(OPERATOR_CODES + waiting[waits - 1]);
            }
            pushWaiting();
            wantsPart = true;
            return true;
        }

        private static int rankOf(int operator) {
            switch (operator) {
                case AND:
                case OR:
                    return 1;
                case '<':
                case '=':
                    return COMPARING;
                case '+':
                case '-':
                    return 3;
                case '*':
                case '/':
                    return 4;
                default:
                    return 0;
            }
        }

        private void pushWaiting() {
            if (waits < waiting.length) {
                waiting[waits] = token;
                waits++;
            }
        }

        private void emit(int c) {
            if (codeLength < code.length) {
                code[codeLength] = c;
                codeLength++;
            }
        }

        private void start() {
            fault = 0;
            behind = 0;
            next();
        }

        private void next() {
            while (behind < length && (signs[behind] == 10 || signs[behind] == ' ')) {
                behind++;
            }
            place = behind;
            if (place >= length) {
                token = END;
            } else if (isLetter(signs[place])) {
                takeWord();
            } else if (isDigit(signs[place])) {
                takeNumber();
            } else {
                behind++;
                token = "()<=+-*/;".indexOf(signs[place]) >= 0 ? signs[place] : WRONG;
            }
        }

        private static boolean isLetter(char sign) {
            return sign >= 'a' && sign <= 'z';
        }

        private static boolean isDigit(char sign) {
            return sign >= '0' && sign <= '9';
        }

        private void takeNumber() {
            number = 0;
            while (behind < length && isDigit(signs[behind])) {
                number = number * 10 + (signs[behind] - '0');
                behind++;
            }
            token = behind - place > 4 ? WRONG : NUMBER;
        }

        private void takeWord() {
            while (behind < length && isLetter(signs[behind])) {
                behind++;
            }
            token = WRONG;
            for (int word = 0; word <= BREAKERS && behind - place <= WORD_SIGNS; word++) {
                if (isWord(word)) {
                    token = word;
                    return;
                }
            }
        }

        private boolean isWord(int word) {
            for (int i = 0; i < WORD_SIGNS; i++) {
                char sign = place + i < behind ? signs[place + i] : ' ';
                if (WORDS.charAt(word * WORD_SIGNS + i) != sign) {
                    return false;
                }
            }
            return true;
        }
    }

    /** What stays of the months that are over. */
    private static final class Months {
        final Pact[] pacts = new Pact[MONTHS];
        final int[] vended = new int[MONTHS * OWNERS];
        final int[] allotted = new int[MONTHS * OWNERS];
        final boolean[] fined = new boolean[MONTHS * OWNERS];

        int place(int owner, int month) {
            return month * OWNERS + owner;
        }

        /** Keeps the month that ends on the world's day NOW. */
        void keep(World world) {
            int month = world.now / MONTH_DAYS - 1;
            if (month < 0 || month >= MONTHS) {
                return;
            }
            pacts[month] = world.pact;
            for (int i = 0; i < world.ownerCount; i++) {
                vended[place(i, month)] = world.owners[i].vended;
                allotted[place(i, month)] = world.pact == null ? 0 : world.owners[i].allotment;
            }
        }
    }

    private static final class Reports {
        private static final int LIMIT = 200;
        int count;
        // Of the reports that were summed up last.
        int low;
        int high;
        private final int[] places = new int[LIMIT];
        private final int[] days = new int[LIMIT];
        private final int[] lows = new int[LIMIT];
        private final int[] highs = new int[LIMIT];

        int add(int place, int day, int from, int to) {
            if (count >= LIMIT) {
                return NONE;
            }
            places[count] = place;
            days[count] = day;
            lows[count] = from;
            highs[count] = to;
            return count++;
        }

        void sumUp(int place, int t) {
            boolean any = false;
            low = 0;
            high = MOST;
            for (int i = 0; i < count; i++) {
                if (places[i] == place && days[i] <= t) {
                    low = any ? Math.max(low, lows[i]) : lows[i];
                    high = any ? Math.min(high, highs[i]) : highs[i];
                    any = true;
                }
            }
        }
    }

    private static final class Sales {
        private static final int LIMIT = 60;
        int count;
        private final int[] sets = new int[LIMIT];
        private final int[] dues = new int[LIMIT];
        private final int[] paids = new int[LIMIT];
        private final int[] badSets = new int[LIMIT];

        int add(int set, int due, int paid) {
            if (count >= LIMIT) {
                return NONE;
            }
            sets[count] = set;
            dues[count] = due;
            paids[count] = paid;
            return count++;
        }

        /** How many are bad; their sets lie in badSets then. */
        int countBad(int bar) {
            int bad = 0;
            for (int i = 0; i < count && bar != NONE; i++) {
                if ((dues[i] - paids[i]) * 100 > dues[i] * bar) {
                    badSets[bad] = sets[i];
                    bad++;
                }
            }
            return bad;
        }

        /** The owners that are in each set of the fewest that explains all bad sales. */
        int inEachFewest(int bar) {
            int bad = countBad(bar);
            if (bad < 2) {
                return 0;
            }
            int fewest = OWNERS + 1;
            int inEach = 0;
            for (int set = 1; set < 1 << OWNERS; set++) {
                int size = Integer.bitCount(set);
                if (size <= fewest && explains(set, bad)) {
                    inEach = size < fewest ? set : inEach & set;
                    fewest = size;
                }
            }
            return inEach;
        }

        private boolean explains(int set, int bad) {
            for (int i = 0; i < bad; i++) {
                if ((badSets[i] & set) == 0) {
                    return false;
                }
            }
            return true;
        }
    }
}
