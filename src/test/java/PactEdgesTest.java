/** The sentences of part 3 that tell what a PACT and a LAW do at the borders, in the document's order: a test for each. */
public final class PactEdgesTest {
    private static final Checks CHECKS = new Checks();

    private PactEdgesTest() {
    }

    /** Owners that dig nothing, of these mights; all of quality 1. */
    private static CoalVend idle(int... mights) {
        CoalVend vend = new CoalVend();
        for (int might : mights) {
            vend.owner(1, might, 0, 0);
        }
        return vend;
    }

    private static void pact(CoalVend vend, String text) {
        CHECKS.due("pact " + text, 0, Checks.pact(vend, text));
    }

    private static void law(CoalVend vend, String text) {
        CHECKS.due("law " + text, 0, Checks.law(vend, text));
    }

    private static void allotted(String what, CoalVend vend, int... want) {
        for (int owner = 0; owner < want.length; owner++) {
            CHECKS.due(what + ": ALLOTMENT of " + owner, want[owner], vend.look(owner, 2));
        }
    }

    private static int issueOnDay1(String expression) {
        CoalVend vend = new CoalVend();
        vend.owner(4, 999, 99, 9);
        pact(vend, "issue " + expression + ";");
        vend.days(1);
        return vend.count(6);
    }

    private static void factsOfTheMonthAhead() {
        CHECKS.sentence("vended, allotted: of the MONTH ahead of that of DAY NOW + 1; 0 in the first");
        CoalVend vend = new CoalVend();
        vend.owner(0, 1, 99, 0);
        vend.owner(0, 1, 0, 0);
        vend.ship(96, 0);
        vend.keels(1);
        pact(vend, "issue 99; weight 1 + vended + allotted;");
        vend.days(1);
        allotted("nothing was in the first", vend, 50, 49);
        pact(vend, "issue 100; weight vended;");
        vend.days(29);
        CHECKS.due("VENDED", 48, vend.look(0, 1));
        vend.keels(0);
        vend.days(1);
        allotted("48 and 0", vend, 100, 0);
        pact(vend, "issue 100; weight vended + 1;");
        vend.days(30);
        allotted("of the month ahead, not of the one ahead of that", vend, 50, 50);
        CHECKS.sentence("allotted: 0 without a PACT then");
        for (int more = 0; more <= 1; more++) {
            vend = idle(3, 1);
            pact(vend, "issue 80; weight might; fall when month;");
            vend.days(1);
            allotted("by might", vend, 60, 20);
            vend.days(30);
            CHECKS.due("it fell", 0, vend.count(5));
            pact(vend, "issue 80; weight allotted + " + more + ";");
            vend.days(30);
            allotted("none was allotted in month 1: each weighs " + more, vend, 40 * more, 40 * more);
        }
    }

    private static void factsInFines() {
        CHECKS.sentence("vended, allotted .. (in a fine line, too); month: that of DAY NOW + 1 else");
        CoalVend vend = new CoalVend();
        vend.owner(0, 1, 99, 0);
        vend.owner(0, 1, 99, 0);
        vend.ship(96, 0);
        vend.keels(1);
        pact(vend, "issue 16 + 16 * month; fine vended * 100 + allotted * 10 + month;");
        vend.days(30);
        vend.keels(0);
        vend.report(0, 0, 0, 9);
        vend.report(1, 0, 0, 9);
        vend.days(29);
        CHECKS.due("on day 59: 8 vended, 8 allotted in month 0; day 60 is of month 1", 881, vend.fine(0, 0));
        vend.days(1);
        CHECKS.due("on day 60: 0 vended, 16 allotted in month 1; day 61 is of month 2", 162, vend.fine(1, 0));
    }

    private static void hungryOfThirtyDays() {
        CHECKS.sentence("hungry: how many of the last 30 DAYS were");
        CoalVend vend = new CoalVend();
        vend.city(0, 10, 1);
        pact(vend, "issue hungry * 10;");
        vend.days(1);
        CHECKS.due("none had been", 0, vend.count(6));
        vend.city(9999, 10, 1);
        vend.days(28);
        vend.city(0, 10, 1);
        vend.days(2);
        CHECKS.due("on day 31: days 1 and 30", 20, vend.count(6));
        vend.city(9999, 10, 1);
        vend.days(30);
        CHECKS.due("on day 61: day 31, not day 30", 10, vend.count(6));
        vend.city(0, 10, 1);
        vend.days(30);
        CHECKS.due("on day 91: 29, for day 61 was not", 290, vend.count(6));
        vend.days(30);
        CHECKS.due("on day 121: all 30", 300, vend.count(6));
        vend = idle(1, 1, 1);
        pact(vend, "issue 0; fine hungry;");
        vend.city(9999, 10, 1);
        vend.days(14);
        vend.city(0, 10, 1);
        vend.days(2);
        vend.city(9999, 10, 1);
        vend.days(28);
        for (int owner = 0; owner < 3; owner++) {
            vend.report(owner, 0, 1, 100);
            CHECKS.due("in a fine on day " + vend.count(0) + ": of days 15 and 16", 2 - owner, vend.fine(owner, 0));
            vend.days(1);
        }
    }

    private static void factsOfTheDay() {
        CHECKS.sentence("price: that of quality 0 now; city: its stock; want");
        CoalVend vend = new CoalVend();
        vend.city(99999, 999, 999);
        pact(vend, "issue city / 100 + want;");
        vend.days(1);
        CHECKS.due("ahead of that day's use", 999 + 999, vend.count(6));
        vend.city(0, 0, 7);
        pact(vend, "issue price;");
        vend.days(30);
        CHECKS.due("1 at least", 1, vend.count(6));
        vend.city(100, 10, 100);
        vend.days(29);
        vend.city(100, 10, 100);
        vend.days(1);
        CHECKS.due("60000 / 400, and no more for quality 0", 150, vend.count(6));
        CHECKS.sentence("ships: how many are at the RIVER");
        vend = new CoalVend();
        vend.owner(0, 1, 99, 0);
        for (int i = 0; i < 8; i++) {
            vend.ship(8, i < 6 ? 0 : 1);
        }
        vend.keels(6);
        vend.winds(1, 1);
        pact(vend, "issue 100 + ships;");
        vend.breaker(0, true);
        vend.days(1);
        CHECKS.due("all eight", 108, vend.count(6));
        vend.days(30);
        CHECKS.due("six are on the way out", 102, vend.count(6));
        CHECKS.sentence("month: that of the DAY that begins");
        vend = new CoalVend();
        pact(vend, "issue month;");
        vend.days(1);
        CHECKS.due("day 1", 0, vend.count(6));
        vend.days(30);
        CHECKS.due("day 31", 1, vend.count(6));
        for (int i = 0; i < 11; i++) {
            vend.days(60);
        }
        CHECKS.due("day 691", 23, vend.count(6));
        CHECKS.sentence("breakers: how many");
        vend = idle(1, 1, 1);
        vend.breaker(0, true);
        vend.breaker(2, true);
        pact(vend, "issue breakers;");
        vend.days(1);
        CHECKS.due("two", 2, vend.count(6));
    }

    private static void factsNotOfTheLine() {
        CHECKS.sentence("What is not of a line (an OWNER's facts in issue and fall, over but in fine) is 0");
        CHECKS.due("issue", 0, issueOnDay1("might + quality + digs + stock + vended + allotted + over"));
        CoalVend vend = new CoalVend();
        vend.owner(4, 999, 99, 9);
        vend.ship(96, 0);
        pact(vend, "issue might + quality + digs + stock + vended + allotted + over;"
                + "fall when might;fall when quality;fall when digs;fall when stock;fall when vended;fall when allotted;fall when over;");
        vend.breaker(0, true);
        vend.days(31);
        CHECKS.due("fall", 1, vend.count(5));
        CHECKS.due("issue of month 1", 0, vend.count(6));
        vend = idle(3, 1);
        pact(vend, "issue 10; weight over; fine over;");
        vend.days(30);
        vend.report(0, 0, 0, 5);
        CHECKS.due("over in a fine line", 35, vend.fine(0, 0));
        vend.days(1);
        allotted("over in a weight line, behind a fine too", vend, 0, 0);
    }

    private static void inHand() {
        CHECKS.sentence("A PACT is in hand: it holds from the next MONTH that begins on; only one is in hand");
        CoalVend vend = new CoalVend();
        pact(vend, "issue 1;");
        CHECKS.due("on day 0 none holds", 0, vend.count(5));
        pact(vend, "issue 2;");
        vend.days(1);
        CHECKS.due("of two the later, from day 1 on", 2, vend.count(6));
        CHECKS.due("none is in hand then", 0, vend.count(16));
        pact(vend, "issue 3;");
        vend.days(29);
        CHECKS.due("till day 30", 2, vend.count(6));
        pact(vend, "issue 4;");
        CHECKS.due("in hand", 1, vend.count(16));
        vend.days(1);
        CHECKS.due("from day 31 on", 4, vend.count(6));
        vend.days(30);
        CHECKS.due("the one ahead does not come again", 4, vend.count(6));
        CHECKS.sentence("A PACT read without a FAULT");
        CHECKS.due("a fault", 3 + 16 * 9, Checks.pact(vend, "issue 5; issue 6;"));
        CHECKS.due("none is in hand", 0, vend.count(16));
        pact(vend, "issue 7;");
        CHECKS.due("a fault", 1 + 16 * 7, Checks.pact(vend, "issue 8"));
        vend.days(30);
        CHECKS.due("the one in hand stays", 7, vend.count(6));
    }

    private static void laws() {
        CHECKS.sentence("A LAW holds from the next DAY on (of two the later), in place of the one ahead");
        CoalVend vend = idle(3, 1);
        pact(vend, "issue 8; bar 10;");
        law(vend, "void issue;");
        vend.days(1);
        CHECKS.due("from day 1 on", 9999, vend.count(6));
        vend.sale(1, 100, 1);
        law(vend, "void issue;");
        law(vend, "void bar;");
        CHECKS.due("not on day 1 itself", 1, vend.count(9));
        vend.days(1);
        CHECKS.due("from day 2 on", 0, vend.count(9));
        vend.days(29);
        CHECKS.due("the issue is void no more", 8, vend.count(6));
        CHECKS.sentence("A LAW read without a FAULT");
        CHECKS.due("a fault", 4 + 16 * 5, Checks.law(vend, "duty 100;"));
        vend.days(1);
        CHECKS.due("the law ahead stays", 0, vend.count(9));
        law(vend, "");
        vend.days(1);
        CHECKS.due("an empty law takes its place", 1, vend.count(9));
    }

    private static void voidKinds() {
        CHECKS.sentence("A KIND that is void is as if it was not told");
        CoalVend vend = idle(2, 1);
        pact(vend, "weight might; issue 10; rests might; fall when month = 4;");
        law(vend, "void weight;");
        vend.days(1);
        allotted("weight: 1 each", vend, 5, 5);
        law(vend, "void issue;");
        vend.days(30);
        allotted("issue: 9999 by might", vend, 6666, 3333);
        law(vend, "");
        vend.days(30);
        // 10 * 2 / 3 is 6 with a rest of 2, 10 / 3 is 3 with a rest of 1
        allotted("rests: by might", vend, 7, 3);
        pact(vend, "weight might; issue 11; rests might; fall when month = 4;");
        law(vend, "void rests;");
        vend.days(30);
        // 11 * 2 / 3 is 7 with a rest of 1, 11 / 3 is 3 with a rest of 2
        allotted("rests: by the greatest rests", vend, 7, 4);
        law(vend, "void fall;");
        vend.days(30);
        CHECKS.due("fall: it holds", 1, vend.count(5));
        allotted("and the rests go by might", vend, 8, 3);
    }

    private static void falling() {
        CHECKS.sentence("the E of one of its fall lines is not 0: it FALLS: none holds");
        String[] falls = {"fall when 1;", "fall when 7;", "fall when 0 - 1;", "fall when 0;".repeat(7) + "fall when 2;",
            "fall when 2;" + "fall when 0;".repeat(7), "fall when 1; fall when 1;", "fall when 1; fall when 0 - 1;"};
        for (String text : falls) {
            CoalVend vend = idle(1);
            pact(vend, text);
            vend.days(1);
            CHECKS.due(text, 0, vend.count(5));
            CHECKS.due("ISSUE", -1, vend.count(6));
            CHECKS.due("ALLOTMENT", -1, vend.look(0, 2));
            CHECKS.due("in hand", 0, vend.count(16));
            vend.days(29);
            CHECKS.due("no PACT held", -1, vend.month(0, 0, 1));
        }
        for (String text : new String[] {"", "fall when 0;", "fall when 0;".repeat(8), "fall when 5 / 0;"}) {
            CoalVend vend = idle(1);
            pact(vend, text);
            vend.days(1);
            CHECKS.due(text, 1, vend.count(5));
        }
        CHECKS.sentence("The first DAY of a MONTH");
        CoalVend vend = idle(1);
        pact(vend, "issue 5; fall when breakers;");
        vend.days(1);
        vend.breaker(0, true);
        vend.days(29);
        CHECKS.due("not within it", 5, vend.count(6));
        vend.days(1);
        CHECKS.due("on day 31", 0, vend.count(5));
        vend.breaker(0, false);
        vend.days(30);
        CHECKS.due("it does not rise again", 0, vend.count(5));
        CHECKS.sentence("A PACT in hand holds from now on; it FALLS: none holds");
        vend = idle(1);
        pact(vend, "issue 5;");
        vend.days(30);
        pact(vend, "issue 6; fall when 1;");
        vend.days(1);
        CHECKS.due("nor the one ahead of it", 0, vend.count(5));
    }

    private static void issues() {
        CHECKS.sentence("the ISSUE is the E of issue, within 0 and 9999 (none told: 9999)");
        CHECKS.due("-1", 0, issueOnDay1("0 - 1"));
        CHECKS.due("0", 0, issueOnDay1("0"));
        CHECKS.due("9999", 9999, issueOnDay1("9999"));
        CHECKS.due("10000", 9999, issueOnDay1("9999 + 1"));
        CHECKS.due("as it goes round: below 0", 0, issueOnDay1("8192 * 512 * 512"));
        CoalVend vend = idle(1);
        pact(vend, "");
        vend.days(1);
        CHECKS.due("none told", 9999, vend.count(6));
        CHECKS.due("to one OWNER", 9999, vend.look(0, 2));
    }

    private static void weights() {
        CHECKS.sentence("WEIGHTS are the E of weight, within 0 and 9999 (none told: 1 each)");
        CoalVend vend = idle(5, 2, 1);
        pact(vend, "issue 100; weight might - 2;");
        vend.days(1);
        allotted("3, 0 and -1", vend, 100, 0, 0);
        vend = idle(999, 10, 1);
        pact(vend, "issue 9999; weight might * 1000;");
        vend.days(1);
        // Of 20998: 4761 with a rest of 8523, twice, and 476 with a rest of 3952
        allotted("9999, 9999 and 1000", vend, 4762, 4761, 476);
        vend = idle(5, 2, 1);
        pact(vend, "issue 9;");
        vend.days(1);
        allotted("none told", vend, 3, 3, 3);
        CHECKS.sentence("Sum 0: all have 0");
        vend = idle(5, 2);
        pact(vend, "issue 10;");
        vend.days(1);
        pact(vend, "issue 10; weight 0;");
        vend.days(30);
        allotted("sum 0", vend, 0, 0);
        CHECKS.due("the ISSUE is told all the same", 10, vend.count(6));
        vend = new CoalVend();
        pact(vend, "issue 10;");
        CHECKS.due("no OWNER at all", 1, vend.days(1));
        CHECKS.due("a PACT holds", 1, vend.count(5));
    }

    private static void whatIsLeft() {
        CHECKS.sentence("ISSUE * WEIGHT / the sum of all, cut; what is left goes one by one");
        CoalVend vend = idle(999, 998, 997, 1, 1, 1, 1, 1, 1, 1);
        pact(vend, "weight might * 10;");
        vend.days(1);
        int sum = 0;
        for (int owner = 0; owner < 10; owner++) {
            sum += vend.look(owner, 2);
        }
        CHECKS.due("nothing of 9999 is lost", 9999, sum);
        vend = idle(1, 1, 1, 1, 1, 1, 1, 1, 1, 1);
        pact(vend, "issue 9;");
        vend.days(1);
        allotted("9 of ten", vend, 1, 1, 1, 1, 1, 1, 1, 1, 1, 0);
        CHECKS.sentence("to those with a WEIGHT above 0");
        for (String rests : new String[] {"might", "quality", "owner"}) {
            vend = idle(1, 9, 1, 1);
            pact(vend, "issue 5; weight might < 5; rests " + rests + ";");
            vend.days(1);
            allotted("not to 1, by " + rests, vend, 2, 0, 2, 1);
        }
        CHECKS.sentence("without a line: those with the greatest rests of that division first, of equal ones the least");
        vend = idle(1, 4, 2, 4);
        pact(vend, "issue 8; weight might;");
        vend.days(1);
        // Of 11: 8 rest 8, 32 rest 10, 16 rest 5, 32 rest 10
        allotted("8 of 11", vend, 1, 3, 1, 3);
        vend = idle(2, 1, 2);
        pact(vend, "issue 4; weight might;");
        vend.days(1);
        allotted("1, 0 and 1 with rests of 3, 4 and 3", vend, 2, 1, 1);
    }

    private static void orderOfRests() {
        CHECKS.sentence("might, quality: the greatest first, of equal ones the least OWNER; owner: by numbers");
        int[][] owners = {{1, 5}, {3, 2}, {3, 9}, {2, 9}};
        String[] rests = {"might", "quality", "owner"};
        int[][][] want = {
            {{0, 0, 1, 0}, {0, 0, 1, 1}, {1, 0, 1, 1}},
            {{0, 1, 0, 0}, {0, 1, 1, 0}, {0, 1, 1, 1}},
            {{1, 0, 0, 0}, {1, 1, 0, 0}, {1, 1, 1, 0}}};
        for (int r = 0; r < rests.length; r++) {
            for (int left = 1; left <= 3; left++) {
                CoalVend vend = new CoalVend();
                for (int[] owner : owners) {
                    vend.owner(owner[0], owner[1], 0, 0);
                }
                pact(vend, "issue " + left + "; rests " + rests[r] + ";");
                vend.days(1);
                allotted(left + " left by " + rests[r], vend, want[r][left - 1]);
            }
        }
    }

    private static void vendedAgain() {
        CHECKS.sentence("VENDED of each is 0 again");
        for (String text : new String[] {"issue 16;", "issue 16; fall when 1;"}) {
            CoalVend vend = new CoalVend();
            vend.owner(0, 1, 99, 0);
            vend.ship(96, 0);
            pact(vend, text);
            vend.days(30);
            int vended = text.length() > 9 ? 96 : 16;
            CHECKS.due("on day 30", vended, vend.look(0, 1));
            vend.keels(0);
            vend.days(1);
            CHECKS.due("on day 31", 0, vend.look(0, 1));
            CHECKS.due("it stays of its month", vended, vend.month(0, 0, 0));
        }
        CHECKS.sentence("VENDED (loaded in this MONTH)");
        CoalVend vend = new CoalVend();
        vend.owner(0, 1, 99, 0);
        vend.ship(96, 0);
        pact(vend, "issue 16;");
        vend.days(31);
        CHECKS.due("16 more may go", 32, 8 * vend.lies(0, 1));
        CHECKS.due("VENDED", 16, vend.look(0, 1));
    }

    public static void main(String[] args) {
        factsOfTheMonthAhead();
        factsInFines();
        hungryOfThirtyDays();
        factsOfTheDay();
        factsNotOfTheLine();
        inHand();
        laws();
        voidKinds();
        falling();
        issues();
        weights();
        whatIsLeft();
        orderOfRests();
        vendedAgain();
        CHECKS.finish();
    }
}
