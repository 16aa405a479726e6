/** Promises 2, 11, 12, 27, 28, 31 and part 3 of the document: what a month's first day does. */
public final class PactTest {
    private static final Checks CHECKS = new Checks();

    private PactTest() {
    }

    private static int issueOf(String expression) {
        CoalVend vend = new CoalVend();
        Checks.pact(vend, "issue " + expression + ";");
        vend.days(1);
        return vend.count(6);
    }

    private static void issue(String expression, int want) {
        CHECKS.due("issue " + expression, want, issueOf(expression));
    }

    private static void reckoning() {
        issue("7 - 2 - 3", 2);
        issue("7 / 2 * 3", 9);
        issue("7 * 3 / 2", 10);
        issue("1 + 2 * 3", 7);
        issue("(1 + 2) * 3", 9);
        issue("0 - 5", 0);
        issue("5 + (0 - 7) / 2", 2);
        issue("9999 + 1", 9999);
        issue("5 / 0 + 3", 3);
        issue("9999 * 9999 * 9999 < 0", 1);
        issue("0 - 9999 * 9999 * 9999 / 9999 / 1000", 102);
        issue("0 - 9999 * 9999 * 30", 9999);
        issue("1 or 1 and 0", 0);
        issue("0 and 1 or 5", 1);
        issue("2 and 3", 1);
        issue("0 or 7", 1);
        issue("0 or 0", 0);
        issue("3 < 4", 1);
        issue("4 < 4", 0);
        issue("4 = 4", 1);
        issue("4 = 5", 0);
        issue("1 + 1 = 2 and 3", 1);
        issue("not 0", 1);
        issue("not 7", 0);
        issue("not 0 + 4", 5);
        issue("not (0 + 4)", 0);
        issue("not not 9", 1);
        issue("not 0 * 6", 6);
        issue("0 - 1 < 0", 1);
        // an owner's facts, and over, tell nothing in an issue
        issue("might + quality + digs + stock + vended + allotted + over", 0);
        issue("price", 200);
        issue("want", 20);
    }

    private static void factsOfAll() {
        CoalVend vend = new CoalVend();
        vend.owner(4, 7, 99, 0);
        vend.ship(8, 0);
        vend.ship(8, 0);
        vend.ship(96, 0);
        vend.breaker(0, true);
        vend.city(500, 10, 999);
        vend.winds(1, 4);
        vend.days(30);
        // Two ships lie at the city; 500 + 16 - 300 are left there.
        Checks.pact(vend, "issue city;");
        vend.days(1);
        CHECKS.due("city: as the day begins", 216, vend.count(6));
        vend.days(29);
        // Hungry since day 52: by day 60 nine times, by day 90 all 30 days.
        Checks.pact(vend, "issue ships * 1000 + month * 100 + breakers * 10;");
        vend.days(1);
        CHECKS.due("ships, month, breakers", 1210, vend.count(6));
        CHECKS.due("hungry days in all", 10, vend.count(10));
        Checks.pact(vend, "issue hungry * 100 + want;");
        vend.days(30);
        CHECKS.due("hungry of the last 30", 3010, vend.count(6));
        vend.city(9000, 100, 999);
        vend.days(30);
        // Of the days 91 to 120 the first alone was hungry; 100 are wanted.
        CHECKS.due("hungry of the last 30", 200, vend.count(6));
        vend.city(9000, 100, 100);
        Checks.pact(vend, "issue price;");
        vend.days(30);
        CHECKS.due("price by the stock of the 150th day", 100 * 6000 / (6100 + 3000), vend.count(6));
    }

    private static void allotments(String text, int... want) {
        CoalVend vend = new CoalVend();
        vend.owner(1, 5, 0, 0);
        vend.owner(3, 5, 0, 0);
        vend.owner(3, 9, 0, 0);
        CHECKS.due("pact " + text, 0, Checks.pact(vend, text));
        vend.days(1);
        for (int o = 0; o < want.length; o++) {
            CHECKS.due(text + " of " + o, want[o], vend.look(o, 2));
        }
    }

    private static void sharing() {
        allotments("issue 11;", 4, 4, 3);
        allotments("issue 10;", 4, 3, 3);
        allotments("issue 10; rests quality;", 3, 4, 3);
        allotments("issue 10; rests might;", 3, 3, 4);
        allotments("issue 11; rests might;", 4, 3, 4);
        allotments("issue 11; rests quality;", 3, 4, 4);
        allotments("issue 11; rests owner;", 4, 4, 3);
        allotments("issue 2; rests might; weight quality;", 1, 0, 1);
        // 100 * 1, 3, 3 / 7 are 14, 42, 42, rests 2, 6, 6
        allotments("issue 100; weight quality;", 14, 43, 43);
        // 101: 14 rest 3, 43 rest 2, 43 rest 2
        allotments("issue 101; weight quality;", 15, 43, 43);
        allotments("issue 3; weight quality < 3; rests quality;", 3, 0, 0);
        allotments("issue 5; weight 1 < quality; rests owner;", 0, 3, 2);
        allotments("issue 5; weight 0 - quality;", 0, 0, 0);
        allotments("issue 0;", 0, 0, 0);
        allotments("", 3333, 3333, 3333);
        allotments("weight might * 9999; rests quality;", 3333, 3333, 3333);
    }

    private static void factsOfOwners() {
        CoalVend vend = new CoalVend();
        vend.keels(3);
        vend.owner(1, 5, 10, 0);
        vend.owner(2, 5, 30, 0);
        vend.ship(96, 0);
        Checks.pact(vend, "issue 90; weight vended + allotted + stock;");
        vend.days(1);
        CHECKS.due("nothing in the first month: sum 0", 0, vend.look(0, 2));
        CHECKS.due("all are stopped", 0, vend.lies(0, 1));
        Checks.pact(vend, "issue 90; weight digs;");
        vend.days(30);
        CHECKS.due("10 of 40", 23, vend.look(0, 2));
        CHECKS.due("30 of 40", 67, vend.look(1, 2));
        vend.days(29);
        CHECKS.due("vended within 23", 16, vend.look(0, 1));
        CHECKS.due("vended within 67", 64, vend.look(1, 1));
        Checks.pact(vend, "issue 9000; weight vended;");
        vend.keels(0);
        vend.days(1);
        CHECKS.due("by 16 and 64", 1800, vend.look(0, 2));
        CHECKS.due("vended is 0 again", 0, vend.look(0, 1));
        vend.days(29);
        Checks.pact(vend, "issue 8000; weight allotted;");
        vend.days(1);
        CHECKS.due("by 1800 and 7200", 1600, vend.look(0, 2));
        Checks.pact(vend, "issue 4000; weight stock;");
        vend.days(29);
        vend.digs(0, 0);
        int stock0 = vend.look(0, 0);
        int stock1 = vend.look(1, 0);
        vend.days(1);
        int share = 4000 * stock0 / (stock0 + stock1);
        CHECKS.due("by the stocks ahead of the digging", true, vend.look(0, 2) - share <= 1 && vend.look(0, 2) >= share);
    }

    private static void stoppedAndBreakers() {
        CoalVend vend = new CoalVend();
        vend.keels(6);
        vend.owner(1, 5, 99, 0);
        vend.ship(96, 0);
        Checks.pact(vend, "issue 24;");
        vend.days(1);
        CHECKS.due("three loads are within 24", 3, vend.lies(0, 1));
        vend.owner(1, 5, 99, 0);
        CHECKS.due("told within the month: no allotment", 0, vend.look(1, 2));
        vend.days(1);
        CHECKS.due("both are stopped", 3, vend.lies(0, 1));
        vend.breaker(1, true);
        vend.days(1);
        CHECKS.due("a breaker is not", 9, vend.lies(0, 1));
        CHECKS.due("of the breaker", 48, vend.look(1, 1));
        vend.breaker(1, false);
        vend.days(27);
        CHECKS.due("stopped again", 9, vend.lies(0, 1));
        CHECKS.due("month 0 of 0", 24, vend.month(0, 0, 0));
        CHECKS.due("allotment of 0", 24, vend.month(0, 0, 1));
        CHECKS.due("month 0 of 1", 48, vend.month(1, 0, 0));
        CHECKS.due("allotment of 1", 0, vend.month(1, 0, 1));
        vend.days(1);
        CHECKS.due("a new month: 12 each", 11, vend.lies(0, 1));
        CHECKS.due("12 of each", 12, vend.look(1, 2));
    }

    private static void months() {
        CoalVend vend = new CoalVend();
        vend.owner(1, 5, 9, 0);
        vend.days(29);
        CHECKS.due("not over", -1, vend.month(0, 0, 0));
        vend.days(1);
        CHECKS.due("over", 0, vend.month(0, 0, 0));
        CHECKS.due("no pact held", -1, vend.month(0, 0, 1));
        CHECKS.due("what", -1, vend.month(0, 0, 2));
        CHECKS.due("what", -1, vend.month(0, 0, -1));
        CHECKS.due("owner", -1, vend.month(1, 0, 0));
        CHECKS.due("owner", -1, vend.month(-1, 0, 0));
        CHECKS.due("month", -1, vend.month(0, -1, 0));
        CHECKS.due("month", -1, vend.month(0, 1, 0));
        CHECKS.due("month", -1, vend.month(0, Integer.MAX_VALUE, 0));
        Checks.pact(vend, "issue 70;");
        vend.days(30);
        vend.owner(1, 5, 9, 0);
        CHECKS.due("of one told later", 0, vend.month(1, 1, 0));
        CHECKS.due("of one told later", 0, vend.month(1, 1, 1));
        CHECKS.due("of one told later, no pact", -1, vend.month(1, 0, 1));
        CHECKS.due("allotment", 70, vend.month(0, 1, 1));
        for (int i = 0; i < 11; i++) {
            vend.days(60);
        }
        CHECKS.due("now", 720, vend.count(0));
        CHECKS.due("the last month", 35, vend.month(1, 23, 1));
        CHECKS.due("none behind it", -1, vend.month(1, 24, 1));
    }

    private static void falling() {
        CoalVend vend = new CoalVend();
        vend.owner(1, 5, 9, 0);
        Checks.pact(vend, "issue 50; fall when breakers; fall when 1 < month; fall when might;");
        vend.days(1);
        CHECKS.due("holds", 1, vend.count(5));
        vend.days(30);
        CHECKS.due("holds", 1, vend.count(5));
        vend.days(30);
        CHECKS.due("fell", 0, vend.count(5));
        CHECKS.due("issue", -1, vend.count(6));
        CHECKS.due("allotment", -1, vend.look(0, 2));
        vend.days(29);
        CHECKS.due("no pact held", -1, vend.month(0, 2, 1));
        CHECKS.due("a pact held", 50, vend.month(0, 1, 1));
        vend.days(1);
        CHECKS.due("it stays so", 0, vend.count(5));
        Checks.pact(vend, "fall when 7 - 2;");
        vend.days(30);
        CHECKS.due("falls at once", 0, vend.count(5));
        CHECKS.due("none in hand", 0, vend.count(16));
        Checks.pact(vend, "issue 9; fall when 0; fall when 0 - 1;");
        Checks.law(vend, "void fall;");
        vend.days(30);
        CHECKS.due("fall is void", 9, vend.count(6));
        Checks.law(vend, "void issue;");
        vend.days(30);
        CHECKS.due("now it falls", 0, vend.count(5));
    }

    private static void voids() {
        CoalVend vend = new CoalVend();
        vend.owner(1, 5, 9, 0);
        vend.owner(2, 6, 9, 0);
        Checks.pact(vend, "issue 50; weight might; rests might;");
        Checks.law(vend, "void issue;");
        vend.days(1);
        // 9999 * 5 / 11 = 4545, 9999 * 6 / 11 = 5454
        CHECKS.due("issue", 9999, vend.count(6));
        CHECKS.due("by might", 4545, vend.look(0, 2));
        Checks.law(vend, "void weight;");
        vend.days(30);
        CHECKS.due("one each", 25, vend.look(0, 2));
        Checks.law(vend, "");
        vend.days(30);
        // 50 * 5 / 11 is 22, rest 8; 50 * 6 / 11 is 27, rest 3
        CHECKS.due("rests might", 22, vend.look(0, 2));
        CHECKS.due("rests might", 28, vend.look(1, 2));
        Checks.law(vend, "void rests;");
        vend.days(30);
        CHECKS.due("rests void", 23, vend.look(0, 2));
        CHECKS.due("rests void", 27, vend.look(1, 2));
    }

    public static void main(String[] args) {
        reckoning();
        factsOfAll();
        sharing();
        factsOfOwners();
        stoppedAndBreakers();
        months();
        falling();
        voids();
        CHECKS.finish();
    }
}
