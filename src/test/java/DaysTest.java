/** Promise 13, and part 2 of the document: what a day does. */
public final class DaysTest {
    private static final Checks CHECKS = new Checks();

    private DaysTest() {
    }

    private static void numbers() {
        CoalVend vend = new CoalVend();
        CHECKS.due("days(-1)", -1, vend.days(-1));
        CHECKS.due("days(61)", -1, vend.days(61));
        CHECKS.due("days(max)", -1, vend.days(Integer.MAX_VALUE));
        CHECKS.due("days(0)", 0, vend.days(0));
        for (int i = 1; i < 12; i++) {
            CHECKS.due("days(60)", 60 * i, vend.days(60));
        }
        CHECKS.due("days(59)", 719, vend.days(59));
        CHECKS.due("beyond 720", -1, vend.days(2));
        CHECKS.due("now", 719, vend.count(0));
        CHECKS.due("days(1)", 720, vend.days(1));
        CHECKS.due("beyond 720", -1, vend.days(1));
        CHECKS.due("days(0)", 720, vend.days(0));
        CHECKS.due("no day is left", 0, vend.slide(30, 1));
        CHECKS.due("none is foretold", -1, vend.foretold(true));
    }

    private static void turnGoesRound() {
        CoalVend vend = new CoalVend();
        vend.keels(1);
        vend.ship(96, 2);
        vend.owner(2, 1, 8, 0);
        vend.owner(1, 1, 99, 0);
        vend.owner(3, 1, 16, 0);
        vend.days(1);
        CHECKS.due("turn behind 0", 1, vend.count(11));
        vend.days(1);
        CHECKS.due("1 has no quality: it was 2's", 2, vend.load(0, 1));
        CHECKS.due("turn behind the last", 0, vend.count(11));
        vend.owner(4, 1, 99, 0);
        CHECKS.due("turn is still 0", 0, vend.count(11));
        vend.days(2);
        CHECKS.due("0 again", 0, vend.load(0, 2));
        CHECKS.due("2 again", 2, vend.load(0, 3));
        CHECKS.due("turn", 3, vend.count(11));
        CHECKS.due("stock of 2", 48, vend.look(2, 0));
        CHECKS.due("vended of 2", 16, vend.look(2, 1));
        vend.digs(2, 0);
        vend.days(1);
        CHECKS.due("3 at its turn", 3, vend.load(0, 4));
        CHECKS.due("turn", 0, vend.count(11));
    }

    private static void keelsRestWithoutEight() {
        CoalVend vend = new CoalVend();
        vend.keels(6);
        vend.ship(96, 0);
        vend.owner(0, 1, 7, 0);
        vend.days(1);
        CHECKS.due("seven are no load", 0, vend.lies(0, 1));
        vend.days(1);
        CHECKS.due("fourteen are one", 1, vend.lies(0, 1));
        CHECKS.due("stock", 6, vend.look(0, 0));
    }

    private static void shipsInTheOrderTheyCame() {
        CoalVend vend = new CoalVend();
        vend.keels(1);
        vend.ship(96, 4);
        vend.ship(20, 0);
        vend.days(1);
        vend.ship(8, 0);
        vend.owner(3, 1, 99, 0);
        vend.days(2);
        CHECKS.due("none has the quality for ship 0", 0, vend.lies(0, 1));
        CHECKS.due("ship 1 has room for two", 2, vend.lies(1, 1));
        CHECKS.due("ship 2 came later", 0, vend.lies(2, 1));
        vend.days(1);
        CHECKS.due("now it is ship 2's turn", 1, vend.lies(2, 1));
    }

    private static void wayOutAndHome() {
        CoalVend vend = new CoalVend();
        vend.ship(8, 0);
        vend.owner(0, 1, 8, 3);
        vend.winds(1, 2);
        vend.winds(2, 1);
        vend.winds(0, 1);
        vend.winds(3, 1);
        vend.winds(1, 2);
        vend.winds(2, 2);
        vend.winds(1, 1);
        vend.winds(2, 2);
        vend.days(1);
        CHECKS.due("it sails on the day on which it is full", 1, vend.lies(0, 0));
        CHECKS.due("days left", 3, vend.lies(0, 2));
        CHECKS.due("came", 0, vend.lies(0, 3));
        vend.days(4);
        CHECKS.due("winds 1, 2, 0, 3: days left", 2, vend.lies(0, 2));
        CHECKS.due("still with its load", 1, vend.lies(0, 1));
        vend.days(1);
        CHECKS.due("no gain on the way", 0, vend.look(0, 3));
        vend.days(1);
        CHECKS.due("at the city", 2, vend.lies(0, 0));
        CHECKS.due("days left", 0, vend.lies(0, 2));
        CHECKS.due("came", 7, vend.lies(0, 3));
        CHECKS.due("sold", 1, vend.count(15));
        CHECKS.due("empty", 0, vend.lies(0, 1));
        // the city had nothing: 100 * 60 * 20 / 600 is 200
        CHECKS.due("gain", 8 * 197, vend.look(0, 3));
        vend.days(1);
        CHECKS.due("on the way home", 3, vend.lies(0, 0));
        CHECKS.due("days left", 3, vend.lies(0, 2));
        vend.days(3);
        CHECKS.due("wind 1 does not help home", 1, vend.lies(0, 2));
        vend.days(1);
        CHECKS.due("at the river", 0, vend.lies(0, 0));
        CHECKS.due("came", 12, vend.lies(0, 3));
        CHECKS.due("not loaded on the day on which it came", 0, vend.lies(0, 1));
        vend.days(1);
        CHECKS.due("loaded again", 1, vend.lies(0, 1));
        CHECKS.due("and calm", 0, vend.lies(0, 0));
    }

    private static void sailsHalfLoadedAfterTenDays() {
        CoalVend vend = new CoalVend();
        vend.days(2);
        vend.ship(96, 0);
        vend.ship(96, 4);
        vend.owner(0, 1, 1, 0);
        vend.winds(1, 60);
        vend.days(8);
        CHECKS.due("a load on day 10", 1, vend.lies(0, 1));
        vend.days(1);
        CHECKS.due("it came 9 days ago", 0, vend.lies(0, 0));
        vend.days(1);
        CHECKS.due("it came 10 days ago", 1, vend.lies(0, 0));
        CHECKS.due("an empty one waits", 0, vend.lies(1, 0));
    }

    private static void pricesByTheStockAheadOfTheShip() {
        CoalVend vend = new CoalVend();
        vend.keels(6);
        vend.owner(0, 1, 99, 0);
        vend.owner(4, 1, 99, 7);
        vend.rebate(1, 13);
        vend.ship(16, 0);
        vend.ship(8, 0);
        vend.city(300, 10, 99);
        vend.winds(1, 4);
        vend.days(4);
        // The stock ahead of ship 0 is 300 - 3 * 10 = 270: 99 * 60 * 10 / 570 = 104, and 104 + 19 for quality 4.
        // Ahead of ship 1 it is 286: 59400 / 586 = 101. The rebate of 123 * 13 / 100 is 15.
        CHECKS.due("gain of 0", 8 * 104 + 8 * 101, vend.look(0, 3));
        CHECKS.due("gain of 1", 8 * (123 - 15 - 7), vend.look(1, 3));
        CHECKS.due("stock of the city", 300 + 24 - 40, vend.count(4));
        CHECKS.due("sold", 3, vend.count(15));
    }

    private static void cityHoldsNoMoreThan99999() {
        CoalVend vend = new CoalVend();
        vend.owner(0, 1, 99, 0);
        vend.ship(8, 0);
        vend.city(99999, 0, 1);
        vend.winds(1, 4);
        vend.days(4);
        CHECKS.due("sold", 1, vend.count(15));
        CHECKS.due("stock of the city", 99999, vend.count(4));
    }

    private static void hungryDays() {
        CoalVend vend = new CoalVend();
        vend.city(30, 10, 1);
        vend.winds(3, 1);
        vend.days(2);
        CHECKS.due("20 and 10 are all it had", 0, vend.count(4));
        CHECKS.due("not hungry yet", 0, vend.count(10));
        vend.days(1);
        CHECKS.due("hungry", 1, vend.count(10));
        vend.city(19, 10, 1);
        vend.winds(0, 2);
        vend.winds(3, 1);
        vend.days(1);
        CHECKS.due("frost: 19 are less than 20", 2, vend.count(10));
        CHECKS.due("all that it had was used", 0, vend.count(4));
        vend.city(0, 0, 1);
        vend.days(5);
        CHECKS.due("nothing wanted: not hungry", 2, vend.count(10));
    }

    private static void duty() {
        CoalVend vend = new CoalVend();
        vend.keels(1);
        vend.owner(0, 1, 99, 1);
        vend.ship(8, 0);
        vend.ship(8, 0);
        vend.winds(1, 5);
        vend.days(2);
        CHECKS.due("law", 0, Checks.law(vend, "duty 30;"));
        vend.days(1);
        CHECKS.due("law", 0, Checks.law(vend, "duty 50;"));
        CHECKS.due("of two the later", 0, Checks.law(vend, "duty 40;"));
        CHECKS.due("a law with a fault is none", 1 + 16 * 7, Checks.law(vend, "duty 5 "));
        vend.days(1);
        CHECKS.due("duty 40 on day 4", 8 * (200 - 40 - 1), vend.look(0, 3));
        CHECKS.due("law", 0, Checks.law(vend, ""));
        vend.city(0, 20, 100);
        vend.days(1);
        CHECKS.due("an empty law on day 5: no duty", 8 * 159 + 8 * 199, vend.look(0, 3));
    }

    public static void main(String[] args) {
        numbers();
        turnGoesRound();
        keelsRestWithoutEight();
        shipsInTheOrderTheyCame();
        wayOutAndHome();
        sailsHalfLoadedAfterTenDays();
        pricesByTheStockAheadOfTheShip();
        cityHoldsNoMoreThan99999();
        hungryDays();
        duty();
        CHECKS.finish();
    }
}
