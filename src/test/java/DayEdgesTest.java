/** The sentences of "Terms" and of part 2 (a DAY) that name a boundary case, in the document's order: a test for each. */
public final class DayEdgesTest {
    private static final Checks CHECKS = new Checks();

    private DayEdgesTest() {
    }

    /** One owner of quality 2 that digs so much a day, and one ship for any quality. */
    private static CoalVend one(int digs, int room) {
        CoalVend vend = new CoalVend();
        vend.owner(2, 1, digs, 0);
        vend.ship(room, 0);
        return vend;
    }

    private static int loadsOf(CoalVend vend, int ship) {
        return vend.lies(ship, 1);
    }

    private static void firstNumbers() {
        CHECKS.sentence("NOW is the last that went by, 0 at first");
        CHECKS.due("NOW", 0, new CoalVend().count(0));
        CHECKS.sentence("a STOCK, 0 at first");
        CHECKS.due("STOCK", 0, one(99, 8).look(0, 0));
        CHECKS.sentence("KEELS, 0 to 6 (2 at first)");
        CHECKS.due("KEELS", 2, new CoalVend().count(3));
        CoalVend vend = one(99, 96);
        vend.days(1);
        CHECKS.due("loads of a day", 2, loadsOf(vend, 0));
        CHECKS.sentence("THE CITY: a stock (0 at first), a WANT a DAY (20 at first), a BASE price (100 at first)");
        CHECKS.due("stock", 0, new CoalVend().count(4));
        CHECKS.due("200: BASE 100", 200, new CoalVend().price(0));
        vend = one(99, 96);
        vend.keels(6);
        vend.winds(1, 5);
        vend.days(5);
        CHECKS.due("96 less WANT 20", 76, vend.count(4));
        CHECKS.sentence("REBATES 0 to 50, 0 at first");
        CHECKS.due("REBATE", 0, vend.look(0, 9));
        CHECKS.due("GAIN without one", 12 * 8 * 210, vend.look(0, 3));
        CHECKS.sentence("THE TURN is 0 at first");
        CHECKS.due("THE TURN", 0, new CoalVend().count(11));
        CHECKS.sentence("SHIPS: at the RIVER at first, where it came on the DAY NOW, empty");
        vend.ship(8, 0);
        int[] want = {0, 0, 0, 5};
        for (int what = 0; what < want.length; what++) {
            CHECKS.due("lies(1, " + what + ")", want[what], vend.lies(1, what));
        }
    }

    private static void monthsOfDays() {
        CHECKS.sentence("DAY d is of MONTH (d - 1) / 30 (0 to 23)");
        CoalVend vend = one(99, 96);
        vend.keels(0);
        vend.days(29);
        vend.keels(1);
        vend.days(1);
        CHECKS.due("day 30 is of month 0", 8, vend.look(0, 1));
        CHECKS.due("month 0 is over", 8, vend.month(0, 0, 0));
        vend.days(1);
        CHECKS.due("day 31 is of month 1: 8 of its own", 8, vend.look(0, 1));
        CHECKS.due("and month 0 is as it was", 8, vend.month(0, 0, 0));
        for (int i = 0; i < 11; i++) {
            vend.days(60);
        }
        vend.days(28);
        CHECKS.due("month 23 is not over on day 719", -1, vend.month(0, 23, 0));
        vend.days(1);
        CHECKS.due("but on day 720", 0, vend.month(0, 23, 0));
        CHECKS.due("there is no month 24", -1, vend.month(0, 24, 0));
    }

    private static void windsNotTold() {
        CHECKS.sentence("WINDS are told in order; those not told are calm");
        CoalVend vend = one(99, 8);
        vend.days(3);
        CHECKS.due("full, and no wind was told", 0, vend.lies(0, 0));
        vend.winds(0, 3);
        vend.winds(1, 1);
        vend.days(1);
        CHECKS.due("wind 1 of day 4", 3, vend.lies(0, 2));
        vend.days(5);
        CHECKS.due("calm since", 3, vend.lies(0, 2));
        vend.winds(1, 6);
        CHECKS.due("days with a wind told", 10, vend.count(14));
        vend.days(1);
        CHECKS.due("of these six only one is still to come, day 10", 2, vend.lies(0, 2));
        vend.days(1);
        CHECKS.due("day 11 is calm", 2, vend.lies(0, 2));
    }

    private static void price(int stock, int want, int base, int quality, int due) {
        CoalVend vend = new CoalVend();
        vend.city(stock, want, base);
        CHECKS.due("stock " + stock + ", WANT " + want + ", BASE " + base + ", quality " + quality, due, vend.price(quality));
    }

    private static void prices() {
        CHECKS.sentence("PRICE: BASE * 60 * WANT / (s + 30 * WANT), cut");
        price(1, 1, 31, 0, 60);
        price(1, 999, 999, 0, 1997);
        price(99999, 999, 999, 0, 460);
        CHECKS.sentence("PRICE: 0 if both are 0");
        price(0, 0, 999, 0, 1);
        price(0, 0, 999, 4, 199);
        price(5, 0, 999, 4, 199);
        CHECKS.sentence("PRICE: and BASE * quality / 20, cut, more");
        price(0, 1, 19, 1, 38);
        price(0, 1, 20, 1, 41);
        price(0, 1, 39, 1, 79);
        price(0, 1, 999, 4, 1998 + 199);
        CHECKS.sentence("PRICE: 1 at least");
        price(99999, 1, 1, 0, 1);
        price(99999, 1, 1, 4, 1);
        price(99999, 1, 5, 4, 1);
        price(99999, 1, 10, 4, 2);
    }

    private static void stockIsCut() {
        CHECKS.sentence("Each OWNER digs; a STOCK above 9999 is cut to that");
        CoalVend vend = new CoalVend();
        vend.owner(0, 1, 99, 0);
        vend.days(60);
        vend.days(40);
        CHECKS.due("100 days", 9900, vend.look(0, 0));
        vend.days(1);
        CHECKS.due("101 days: not above", 9999, vend.look(0, 0));
        vend.ship(96, 0);
        vend.keels(1);
        vend.days(1);
        CHECKS.due("cut before a load goes", 9991, vend.look(0, 0));
        vend.digs(0, 8);
        vend.days(1);
        CHECKS.due("9999 again, and 8 go", 9991, vend.look(0, 0));
        vend.digs(0, 0);
        vend.days(1);
        CHECKS.due("9991 and nothing dug", 9983, vend.look(0, 0));
    }

    private static void keels() {
        CHECKS.sentence("As many times as there are KEELS");
        for (int n = 0; n <= 6; n++) {
            CoalVend vend = one(99, 96);
            vend.keels(n);
            vend.days(1);
            CHECKS.due(n + " KEELS", n, loadsOf(vend, 0));
            CHECKS.due(n + " KEELS of 8", 99 - 8 * n, vend.look(0, 0));
        }
        CHECKS.sentence("None: the KEELS rest");
        CoalVend vend = one(16, 96);
        vend.owner(2, 1, 7, 0);
        vend.owner(2, 1, 7, 0);
        vend.keels(5);
        vend.days(1);
        CHECKS.due("16 are two loads, 7 are none", 2, loadsOf(vend, 0));
        CHECKS.due("THE TURN stays behind the last that loaded", 1, vend.count(11));
        vend.digs(0, 0);
        vend.digs(1, 0);
        vend.digs(2, 0);
        vend.days(1);
        CHECKS.due("nobody has 8", 2, loadsOf(vend, 0));
        CHECKS.due("THE TURN stays", 1, vend.count(11));
        vend = new CoalVend();
        vend.ship(8, 0);
        CHECKS.due("no OWNER at all", 1, vend.days(1));
        vend.owner(0, 1, 8, 0);
        CHECKS.due("THE TURN", 0, vend.count(11));
    }

    private static void room() {
        CHECKS.sentence("with room for 8 more");
        int[][] loads = {{8, 1}, {15, 1}, {16, 2}, {23, 2}, {24, 3}, {95, 11}, {96, 12}};
        for (int[] l : loads) {
            CoalVend vend = one(99, l[0]);
            vend.keels(6);
            vend.days(4);
            CHECKS.due("loads in a room of " + l[0], l[1], loadsOf(vend, 0));
        }
    }

    private static void shipsByTurns() {
        CHECKS.sentence("by the DAY on which they came, then by numbers");
        CoalVend vend = one(8, 16);
        vend.ship(16, 0);
        vend.days(2);
        CHECKS.due("of the same day ship 0 first", 2, loadsOf(vend, 0));
        CHECKS.due("and ship 1 behind it", 0, loadsOf(vend, 1));
        vend = one(8, 8);
        vend.keels(1);
        vend.winds(1, 4);
        vend.winds(2, 4);
        vend.days(1);
        vend.digs(0, 0);
        vend.days(4);
        vend.ship(8, 3);
        vend.ship(8, 0);
        vend.ship(8, 0);
        vend.days(3);
        CHECKS.due("ship 0 is back on day 8", 8, vend.lies(0, 3));
        vend.digs(0, 8);
        for (int ship : new int[] {2, 3, 0}) {
            CHECKS.due("not loaded yet: ship " + ship, 0, loadsOf(vend, ship));
            vend.days(1);
            CHECKS.due("loaded at its turn: ship " + ship, 1, loadsOf(vend, ship));
        }
        CHECKS.sentence("the first for which there is an OWNER");
        CHECKS.due("nobody has the quality for ship 1, the first in line", 0, loadsOf(vend, 1));
    }

    private static void quality() {
        CHECKS.sentence("with quality enough for it");
        for (int least = 0; least <= 4; least++) {
            CoalVend vend = new CoalVend();
            vend.owner(2, 1, 99, 0);
            vend.ship(8, least);
            vend.days(1);
            CHECKS.due("quality 2 where " + least + " is wanted", least <= 2 ? 1 : 0, loadsOf(vend, 0));
        }
    }

    private static void eightInStock() {
        CHECKS.sentence("with 8 in STOCK");
        CoalVend vend = one(7, 96);
        vend.days(1);
        CHECKS.due("7 are too few", 0, loadsOf(vend, 0));
        vend = one(8, 96);
        vend.days(1);
        CHECKS.due("8 are enough", 1, loadsOf(vend, 0));
        CHECKS.due("and none is left", 0, vend.look(0, 0));
    }

    private static int vendedWith(String pact, boolean breaker) {
        CoalVend vend = one(99, 96);
        vend.keels(6);
        vend.breaker(0, breaker);
        CHECKS.due("pact", 0, Checks.pact(vend, pact));
        vend.days(1);
        return vend.look(0, 1);
    }

    private static void stopped() {
        CHECKS.sentence("STOPPED is an OWNER if what it VENDED and 8 more is above its ALLOTMENT");
        CHECKS.due("ALLOTMENT 0", 0, vendedWith("issue 0;", false));
        CHECKS.due("ALLOTMENT 7", 0, vendedWith("issue 7;", false));
        CHECKS.due("ALLOTMENT 8", 8, vendedWith("issue 8;", false));
        CHECKS.due("ALLOTMENT 15", 8, vendedWith("issue 15;", false));
        CHECKS.due("ALLOTMENT 16", 16, vendedWith("issue 16;", false));
        CHECKS.sentence("STOPPED: it is no BREAKER");
        CHECKS.due("a BREAKER", 48, vendedWith("issue 0;", true));
        CHECKS.sentence("STOPPED: as long as a PACT holds");
        CHECKS.due("it fell", 48, vendedWith("issue 0; fall when 1;", false));
    }

    private static void turn() {
        CHECKS.sentence("THE TURN is the OWNER behind then (0 behind the last)");
        CoalVend vend = one(8, 96);
        vend.owner(2, 1, 8, 0);
        vend.owner(2, 1, 8, 0);
        vend.keels(1);
        int[] turns = {1, 2, 0, 1};
        for (int day = 0; day < turns.length; day++) {
            vend.days(1);
            CHECKS.due("day " + (day + 1), turns[day], vend.count(11));
            CHECKS.due("load of day " + (day + 1), day % 3, vend.load(0, day));
        }
        CHECKS.sentence("from THE TURN on round about");
        vend.digs(1, 0);
        vend.digs(2, 0);
        vend.days(2);
        // Of 1 and 2 each has two loads left: they are first, then it is 0 again.
        CHECKS.due("1 at its turn", 1, vend.load(0, 4));
        CHECKS.due("2 at its turn", 2, vend.load(0, 5));
        CoalVend last = new CoalVend();
        last.owner(0, 1, 99, 0);
        last.owner(1, 1, 99, 0);
        last.owner(0, 1, 99, 0);
        last.ship(96, 1);
        last.days(1);
        CHECKS.due("behind 1 round about to 1", 1, last.load(0, 1));
        CHECKS.due("behind 1", 2, last.count(11));
        CoalVend alone = one(99, 96);
        alone.days(1);
        CHECKS.due("a single OWNER is the last", 0, alone.count(11));
        alone.owner(2, 1, 99, 0);
        CHECKS.due("and stays ahead of one told later", 0, alone.count(11));
    }

    private static void sailing() {
        CHECKS.sentence("one at the RIVER that has no room for 8 more sails with WIND 1");
        for (int wind = 0; wind <= 3; wind++) {
            CoalVend vend = one(99, 15);
            vend.winds(wind, 1);
            vend.days(1);
            CHECKS.due("WIND " + wind, wind == 1 ? 1 : 0, vend.lies(0, 0));
        }
        CoalVend roomy = one(8, 16);
        roomy.winds(1, 2);
        roomy.days(1);
        CHECKS.due("8 have room still", 0, roomy.lies(0, 0));
        roomy.days(1);
        CHECKS.due("now they have not", 1, roomy.lies(0, 0));
        CHECKS.sentence("or that has a LOAD and came 10 DAYS ago or more");
        CoalVend vend = new CoalVend();
        vend.days(5);
        vend.owner(0, 1, 8, 0);
        vend.ship(96, 0);
        vend.keels(1);
        vend.winds(1, 15);
        vend.days(1);
        vend.digs(0, 0);
        vend.days(8);
        CHECKS.due("on day 14 it came 9 days ago", 0, vend.lies(0, 0));
        vend.days(1);
        CHECKS.due("on day 15 it came 10 days ago", 1, vend.lies(0, 0));
        CHECKS.due("that day is one of the way's", 3, vend.lies(0, 2));
        CoalVend late = one(0, 96);
        late.days(20);
        late.digs(0, 8);
        late.winds(1, 21);
        CHECKS.due("20 days without a LOAD", 0, late.lies(0, 0));
        late.days(1);
        CHECKS.due("on day 21 it came 21 days ago and has one", 1, late.lies(0, 0));
        CoalVend empty = one(0, 96);
        empty.winds(1, 30);
        empty.days(30);
        CHECKS.due("without a LOAD it waits on", 0, empty.lies(0, 0));
    }

    private static void ways() {
        CHECKS.sentence("A way is 4 DAYS of that WIND (Other DAYS it lies still)");
        CoalVend vend = one(8, 8);
        int[] winds = {1, 0, 1, 2, 1, 3, 1, 1, 0, 3, 2, 1, 2, 2, 0, 2};
        int[] left = {3, 3, 2, 2, 1, 1, 0, 0, 0, 0, 3, 3, 2, 1, 1, 0};
        int[] place = {1, 1, 1, 1, 1, 1, 2, 2, 2, 2, 3, 3, 3, 3, 3, 0};
        for (int day = 0; day < winds.length; day++) {
            vend.winds(winds[day], 1);
            vend.days(1);
            CHECKS.due("left on day " + (day + 1), left[day], vend.lies(0, 2));
            CHECKS.due("place on day " + (day + 1), place[day], vend.lies(0, 0));
        }
        CHECKS.sentence("at its end it is there (and came on this DAY)");
        CHECKS.due("at the RIVER on day 16", 16, vend.lies(0, 3));
        CHECKS.due("empty", 0, loadsOf(vend, 0));
        CHECKS.sentence("one at THE CITY with WIND 2 (not on the DAY on which it came there)");
        CoalVend quick = one(8, 8);
        quick.winds(1, 4);
        quick.winds(2, 4);
        quick.winds(1, 1);
        quick.days(4);
        CHECKS.due("it came on day 4", 4, quick.lies(0, 3));
        CHECKS.due("and is there", 2, quick.lies(0, 0));
        quick.days(1);
        CHECKS.due("on day 5 it is on its way", 3, quick.lies(0, 2));
        quick.days(3);
        CHECKS.due("came again", 8, quick.lies(0, 3));
        quick.days(1);
        CHECKS.due("full on day 9 and away", 1, quick.lies(0, 0));
    }

    private static void selling() {
        CHECKS.sentence("it sells its LOADS, each at the PRICE by the stock ahead of this SHIP");
        CoalVend vend = one(99, 16);
        vend.ship(8, 0);
        vend.keels(6);
        vend.city(100, 0, 100);
        vend.winds(1, 4);
        vend.days(3);
        vend.city(100, 10, 100);
        vend.days(1);
        // 100 * 60 * 10 / 400 is 150 for both loads of ship 0, 60000 / 416 is 144 for ship 1, and 10 for quality 2
        CHECKS.due("GAIN", 8 * 160 + 8 * 160 + 8 * 154, vend.look(0, 3));
        CHECKS.due("LOADS sold", 3, vend.count(15));
        CHECKS.sentence("then the stock has them more (99999 at most)");
        int[][] stocks = {{99990, 99998}, {99991, 99999}, {99992, 99999}, {99999, 99999}};
        for (int[] stock : stocks) {
            CoalVend full = one(99, 8);
            full.city(stock[0], 0, 1);
            full.winds(1, 4);
            full.days(4);
            CHECKS.due("8 more than " + stock[0], stock[1], full.count(4));
        }
    }

    private static int gain(int base, int cost, int rebate, String law) {
        CoalVend vend = new CoalVend();
        vend.owner(0, 1, 99, cost);
        vend.ship(8, 0);
        vend.rebate(0, rebate);
        vend.city(0, 20, base);
        Checks.law(vend, law);
        vend.winds(1, 4);
        vend.days(4);
        return vend.look(0, 3);
    }

    private static void gains() {
        CHECKS.sentence("GAIN: 8 * (PRICE - PRICE * its REBATE / 100, cut, - DUTY - cost)");
        CHECKS.due("PRICE 2, REBATE 49: cut to 0", 8 * 2, gain(1, 0, 49, ""));
        CHECKS.due("PRICE 2, REBATE 50: 1", 8, gain(1, 0, 50, ""));
        CHECKS.due("PRICE 6, REBATE 33: cut to 1", 8 * 5, gain(3, 0, 33, ""));
        CHECKS.due("PRICE 6, REBATE 34: 2", 8 * 4, gain(3, 0, 34, ""));
        CHECKS.due("below 0", 8 * (2 - 99 - 99), gain(1, 99, 0, "duty 99;"));
        CHECKS.sentence("DUTY: by the law of the DAY");
        CHECKS.due("no law: 0", 8 * 200, gain(100, 0, 0, ""));
        CHECKS.due("duty 99", 8 * 101, gain(100, 0, 0, "duty 99;"));
        CoalVend vend = one(99, 8);
        vend.winds(1, 4);
        vend.days(3);
        Checks.law(vend, "duty 10;");
        vend.days(1);
        CHECKS.due("the law told on day 3 is that of day 4", 8 * 200, vend.look(0, 3));
        Checks.law(vend, "duty 90;");
        CHECKS.due("what was sold is sold", 8 * 200, vend.look(0, 3));
    }

    private static void hungry() {
        CHECKS.sentence("THE CITY uses its WANT as far as it has it; HUNGRY is a DAY on which it has less");
        int[][] days = {{21, 1, 0}, {20, 0, 0}, {19, 0, 1}, {0, 0, 1}};
        for (int[] d : days) {
            CoalVend vend = new CoalVend();
            vend.city(d[0], 20, 1);
            vend.days(1);
            CHECKS.due("left of " + d[0], d[1], vend.count(4));
            CHECKS.due("HUNGRY with " + d[0], d[2], vend.count(10));
        }
        CHECKS.sentence("twice that with WIND 3");
        int[][] frosts = {{41, 1, 0}, {40, 0, 0}, {39, 0, 1}};
        for (int[] d : frosts) {
            CoalVend vend = new CoalVend();
            vend.city(d[0], 20, 1);
            vend.winds(3, 1);
            vend.days(1);
            CHECKS.due("left of " + d[0], d[1], vend.count(4));
            CHECKS.due("HUNGRY with " + d[0], d[2], vend.count(10));
        }
        for (int wind = 0; wind < 3; wind++) {
            CoalVend vend = new CoalVend();
            vend.city(40, 20, 1);
            vend.winds(wind, 1);
            vend.days(1);
            CHECKS.due("once with WIND " + wind, 20, vend.count(4));
        }
        CoalVend vend = new CoalVend();
        vend.city(0, 0, 1);
        vend.winds(3, 1);
        vend.days(2);
        CHECKS.due("no WANT: never HUNGRY", 0, vend.count(10));
    }

    public static void main(String[] args) {
        firstNumbers();
        monthsOfDays();
        windsNotTold();
        prices();
        stockIsCut();
        keels();
        room();
        shipsByTurns();
        quality();
        eightInStock();
        stopped();
        turn();
        sailing();
        ways();
        selling();
        gains();
        hungry();
        CHECKS.finish();
    }
}
