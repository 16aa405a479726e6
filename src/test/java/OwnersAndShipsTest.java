/** Promises 2 to 9, 14, 27, 29, 30, 31: what is told, and what is seen of it. */
public final class OwnersAndShipsTest {
    private static final Checks CHECKS = new Checks();

    private OwnersAndShipsTest() {
    }

    private static void owners() {
        CoalVend vend = new CoalVend();
        int[][] wrong = {{-1, 1, 0, 0}, {5, 1, 0, 0}, {0, 0, 0, 0}, {0, 1000, 0, 0}, {0, 1, -1, 0}, {0, 1, 100, 0}, {0, 1, 0, -1},
            {0, 1, 0, 100}, {Integer.MIN_VALUE, 1, 0, 0}, {0, Integer.MAX_VALUE, 0, 0}};
        for (int[] w : wrong) {
            CHECKS.due("owner of wrong numbers", -1, vend.owner(w[0], w[1], w[2], w[3]));
        }
        CHECKS.due("first owner", 0, vend.owner(0, 1, 0, 0));
        CHECKS.due("second owner", 1, vend.owner(4, 999, 99, 98));
        int[] want = {0, 0, -1, 0, 0, 4, 999, 99, 98, 0};
        for (int what = 0; what < want.length; what++) {
            CHECKS.due("look(1, " + what + ")", want[what], vend.look(1, what));
        }
        for (int i = 2; i < 10; i++) {
            CHECKS.due("owner " + i, i, vend.owner(1, 1, 1, 1));
        }
        CHECKS.due("an owner too many", -1, vend.owner(1, 1, 1, 1));
        CHECKS.due("owners", 10, vend.count(1));
        CHECKS.throwsNoSuchElement("look(10, 0)", () -> vend.look(10, 0));
        CHECKS.throwsNoSuchElement("look(-1, 0)", () -> vend.look(-1, 0));
        CHECKS.throwsNoSuchElement("look(0, 10)", () -> vend.look(0, 10));
        CHECKS.throwsNoSuchElement("look(0, -1)", () -> vend.look(0, -1));
    }

    private static void changesOfOwners() {
        CoalVend vend = new CoalVend();
        CHECKS.due("digs of none", false, vend.digs(0, 1));
        CHECKS.due("rebate of none", false, vend.rebate(0, 1));
        CHECKS.due("breaker of none", false, vend.breaker(0, true));
        vend.owner(0, 1, 1, 1);
        CHECKS.due("digs(-1, 1)", false, vend.digs(-1, 1));
        CHECKS.due("digs(0, -1)", false, vend.digs(0, -1));
        CHECKS.due("digs(0, 100)", false, vend.digs(0, 100));
        CHECKS.due("digs as told", 1, vend.look(0, 7));
        CHECKS.due("digs(0, 0)", true, vend.digs(0, 0));
        CHECKS.due("digs none", 0, vend.look(0, 7));
        CHECKS.due("digs(0, 99)", true, vend.digs(0, 99));
        vend.days(2);
        CHECKS.due("stock", 198, vend.look(0, 0));
        CHECKS.due("rebate(0, -1)", false, vend.rebate(0, -1));
        CHECKS.due("rebate(0, 51)", false, vend.rebate(0, 51));
        CHECKS.due("rebate(1, 5)", false, vend.rebate(1, 5));
        CHECKS.due("rebate untold", 0, vend.look(0, 9));
        CHECKS.due("rebate(0, 50)", true, vend.rebate(0, 50));
        CHECKS.due("rebate", 50, vend.look(0, 9));
        CHECKS.due("breaker(0, true)", true, vend.breaker(0, true));
        CHECKS.due("is a breaker", 1, vend.look(0, 4));
        CHECKS.due("breakers", 1, vend.count(12));
        CHECKS.due("breaker(0, false)", true, vend.breaker(0, false));
        CHECKS.due("is no breaker", 0, vend.look(0, 4));
        CHECKS.due("breakers", 0, vend.count(12));
    }

    private static void stockIsCut() {
        CoalVend vend = new CoalVend();
        vend.owner(0, 1, 99, 0);
        vend.days(60);
        vend.days(41);
        CHECKS.due("101 days' stock is cut to that", 9999, vend.look(0, 0));
        vend.days(1);
        CHECKS.due("and stays so", 9999, vend.look(0, 0));
    }

    private static void ships() {
        CoalVend vend = new CoalVend();
        vend.days(3);
        int[][] wrong = {{7, 0}, {97, 0}, {8, -1}, {8, 5}, {-8, 0}, {Integer.MAX_VALUE, 0}};
        for (int[] w : wrong) {
            CHECKS.due("ship of wrong numbers", -1, vend.ship(w[0], w[1]));
        }
        CHECKS.due("first ship", 0, vend.ship(8, 0));
        CHECKS.due("second ship", 1, vend.ship(96, 4));
        int[] want = {0, 0, 0, 3, -1};
        for (int what = 0; what < want.length; what++) {
            CHECKS.due("lies(1, " + what + ")", want[what], vend.lies(1, what));
        }
        CHECKS.due("lies(1, -1)", -1, vend.lies(1, -1));
        CHECKS.due("lies(2, 0)", -1, vend.lies(2, 0));
        CHECKS.due("lies(-1, 0)", -1, vend.lies(-1, 0));
        CHECKS.due("load(2, 0)", -1, vend.load(2, 0));
        CHECKS.due("load(-1, 0)", -1, vend.load(-1, 0));
        CHECKS.due("load(0, 0)", -1, vend.load(0, 0));
        CHECKS.due("load(0, -1)", -1, vend.load(0, -1));
        for (int i = 2; i < 8; i++) {
            CHECKS.due("ship " + i, i, vend.ship(8, 0));
        }
        CHECKS.due("a ship too many", -1, vend.ship(8, 0));
        CHECKS.due("ships", 8, vend.count(2));
    }

    private static void keels() {
        CoalVend vend = new CoalVend();
        vend.owner(0, 1, 99, 0);
        vend.ship(96, 0);
        CHECKS.due("keels(-1)", false, vend.keels(-1));
        CHECKS.due("keels(7)", false, vend.keels(7));
        CHECKS.due("keels at first", 2, vend.count(3));
        CHECKS.due("keels(0)", true, vend.keels(0));
        vend.days(1);
        CHECKS.due("no keels load nothing", 0, vend.lies(0, 1));
        CHECKS.due("keels(6)", true, vend.keels(6));
        vend.days(1);
        CHECKS.due("six keels", 6, vend.lies(0, 1));
        CHECKS.due("load(0, 5)", 0, vend.load(0, 5));
        CHECKS.due("load(0, 6)", -1, vend.load(0, 6));
    }

    private static void winds() {
        CoalVend vend = new CoalVend();
        int[][] wrong = {{-1, 1}, {4, 1}, {0, 0}, {0, 61}, {0, -1}, {0, Integer.MAX_VALUE}};
        for (int[] w : wrong) {
            CHECKS.due("wrong winds", -1, vend.winds(w[0], w[1]));
        }
        for (int i = 1; i < 12; i++) {
            CHECKS.due("winds", 60 * i, vend.winds(i % 4, 60));
        }
        CHECKS.due("winds", 719, vend.winds(0, 59));
        CHECKS.due("beyond 720", -1, vend.winds(0, 2));
        CHECKS.due("to 720", 720, vend.winds(3, 1));
        CHECKS.due("beyond 720", -1, vend.winds(0, 1));
        CHECKS.due("days with a wind told", 720, vend.count(14));
    }

    private static void windsAreOfDaysInOrder() {
        CoalVend vend = new CoalVend();
        vend.city(100, 10, 1);
        vend.days(2);
        vend.winds(3, 3);
        CHECKS.due("stock of the city", 80, vend.count(4));
        vend.days(2);
        CHECKS.due("the third of three days told late is day 3; day 4 is calm", 50, vend.count(4));
    }

    private static void city() {
        CoalVend vend = new CoalVend();
        int[][] wrong = {{-1, 0, 1}, {100000, 0, 1}, {0, -1, 1}, {0, 1000, 1}, {0, 0, 0}, {0, 0, 1000}};
        for (int[] w : wrong) {
            CHECKS.due("wrong city", false, vend.city(w[0], w[1], w[2]));
        }
        CHECKS.due("price at first", 200, vend.price(0));
        CHECKS.due("city(99999, 999, 999)", true, vend.city(99999, 999, 999));
        // 999 * 60 * 999 / (99999 + 29970) is 460; 999 * 3 / 20 is 149
        CHECKS.due("price(0)", 460, vend.price(0));
        CHECKS.due("price(3)", 609, vend.price(3));
        CHECKS.due("city(0, 0, 1)", true, vend.city(0, 0, 1));
        CHECKS.due("price of nothing wanted", 1, vend.price(0));
        CHECKS.due("city(0, 0, 999)", true, vend.city(0, 0, 999));
        CHECKS.due("price of nothing wanted", 1, vend.price(0));
        CHECKS.due("price(4) of nothing wanted", 199, vend.price(4));
        CHECKS.due("price(-1)", -1, vend.price(-1));
        CHECKS.due("price(5)", -1, vend.price(5));
    }

    private static void counts() {
        CoalVend vend = new CoalVend();
        for (int what : new int[] {-1, 17, Integer.MAX_VALUE, Integer.MIN_VALUE}) {
            CHECKS.due("count(" + what + ")", -1, vend.count(what));
        }
    }

    public static void main(String[] args) {
        owners();
        changesOfOwners();
        stockIsCut();
        ships();
        keels();
        winds();
        windsAreOfDaysInOrder();
        city();
        counts();
        CHECKS.finish();
    }
}
