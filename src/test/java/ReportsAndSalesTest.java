/** Promises 15 to 20 and part 4 of the document. */
public final class ReportsAndSalesTest {
    private static final Checks CHECKS = new Checks();

    private ReportsAndSalesTest() {
    }

    private static void known(CoalVend vend, int owner, int month, int t, int low, int high) {
        String what = "known(" + owner + ", " + month + ", " + t + ") ";
        CHECKS.due(what + "from", low, vend.known(owner, month, t, 0));
        CHECKS.due(what + "to", high, vend.known(owner, month, t, 1));
        CHECKS.due(what + "doubted", low > high, vend.known(owner, month, t, 2) == 1);
    }

    private static void reports() {
        CoalVend vend = new CoalVend();
        for (int i = 0; i < 10; i++) {
            vend.owner(1, 5, 0, 0);
        }
        vend.days(29);
        CHECKS.due("not over", -1, vend.report(0, 0, 0, 1));
        vend.days(1);
        int[][] wrong = {{-1, 0, 0, 1}, {10, 0, 0, 1}, {0, -1, 0, 1}, {0, 1, 0, 1}, {0, 0, -1, 1}, {0, 0, 3, 1}, {0, 0, 0, -1},
            {0, 0, 0, 10000}};
        for (int[] w : wrong) {
            CHECKS.due("wrong report", -1, vend.report(w[0], w[1], w[2], w[3]));
        }
        known(vend, 0, 0, 30, 0, 9999);
        CHECKS.due("keels", 0, vend.report(0, 0, 0, 10));
        known(vend, 0, 0, 30, 70, 90);
        CHECKS.due("keels", 1, vend.report(1, 0, 0, 9999));
        known(vend, 1, 0, 30, 69993, 89991);
        CHECKS.due("bills", 2, vend.report(2, 0, 1, 149));
        known(vend, 2, 0, 30, 147, 151);
        CHECKS.due("bills", 3, vend.report(3, 0, 1, 49));
        known(vend, 3, 0, 30, 49, 49);
        CHECKS.due("sacks", 4, vend.report(4, 0, 2, 103));
        known(vend, 4, 0, 30, 25, 35);
        CHECKS.due("sacks", 5, vend.report(5, 0, 2, 99));
        known(vend, 5, 0, 30, 24, 33);
        CHECKS.due("sacks", 6, vend.report(6, 0, 2, 100));
        known(vend, 6, 0, 30, 25, 34);
        known(vend, 0, 0, 29, 0, 9999);
        vend.days(5);
        CHECKS.due("bills within the keels", 7, vend.report(0, 0, 1, 80));
        known(vend, 0, 0, 35, 79, 81);
        known(vend, 0, 0, 34, 70, 90);
        known(vend, 0, 0, 30, 70, 90);
        CHECKS.due("sacks that can't be", 8, vend.report(0, 0, 2, 80));
        known(vend, 0, 0, 35, 79, 27);
        CHECKS.due("what", -1, vend.known(0, 0, 35, 3));
        CHECKS.due("what", -1, vend.known(0, 0, 35, -1));
        CHECKS.due("t", -1, vend.known(0, 0, 36, 0));
        CHECKS.due("t", -1, vend.known(0, 0, -1, 0));
        CHECKS.due("month", -1, vend.known(0, 1, 35, 0));
        CHECKS.due("month", -1, vend.known(0, -1, 35, 0));
        CHECKS.due("owner", -1, vend.known(10, 0, 35, 0));
        CHECKS.due("owner", -1, vend.known(-1, 0, 35, 0));
        CHECKS.due("on day 0", 0, vend.known(0, 0, 0, 0));
        for (int i = 9; i < 200; i++) {
            CHECKS.due("report", i, vend.report(9, 0, 1, 50));
        }
        CHECKS.due("a report too many", -1, vend.report(9, 0, 1, 50));
        CHECKS.due("reports", 200, vend.count(7));
        known(vend, 9, 0, 35, 49, 51);
    }

    private static void provedAndFined() {
        CoalVend vend = new CoalVend();
        vend.owner(1, 5, 3, 0);
        vend.owner(2, 5, 4, 0);
        Checks.pact(vend, "issue 100; fine over * 10 + might + digs + price + month + breakers;");
        vend.days(30);
        Checks.pact(vend, "issue 100; fine 1;");
        vend.days(30);
        CHECKS.due("nothing is known", 0, vend.proved(0, 0, 60));
        CHECKS.due("nothing is proved", -1, vend.fine(0, 0));
        vend.report(0, 0, 1, 50);
        CHECKS.due("49 are no more than 50", 0, vend.proved(0, 0, 60));
        CHECKS.due("nothing is proved", -1, vend.fine(0, 0));
        vend.days(1);
        vend.report(0, 0, 0, 10);
        CHECKS.due("from 70 to 51 is doubted", 0, vend.proved(0, 0, 61));
        CHECKS.due("nothing is proved", -1, vend.fine(0, 0));
        vend.report(1, 0, 0, 10);
        CHECKS.due("70 less 50", 20, vend.proved(1, 0, 61));
        CHECKS.due("not ahead", 0, vend.proved(1, 0, 60));
        CHECKS.due("t", -1, vend.proved(1, 0, 62));
        CHECKS.due("t", -1, vend.proved(1, 0, -1));
        CHECKS.due("month", -1, vend.proved(1, 2, 61));
        CHECKS.due("month", -1, vend.proved(1, -1, 61));
        CHECKS.due("owner", -1, vend.proved(2, 0, 61));
        CHECKS.due("owner", -1, vend.proved(-1, 0, 61));
        vend.breaker(0, true);
        // The line of the pact that held in month 0, over 20, might 5, digs 4, price 200, month 2, a breaker.
        CHECKS.due("fine", 200 + 5 + 4 + 200 + 2 + 1, vend.fine(1, 0));
        CHECKS.due("gain", -412, vend.look(1, 3));
        CHECKS.due("once", -1, vend.fine(1, 0));
        CHECKS.due("month", -1, vend.fine(1, 2));
        CHECKS.due("month", -1, vend.fine(1, -1));
        CHECKS.due("owner", -1, vend.fine(2, 0));
        CHECKS.due("owner", -1, vend.fine(-1, 0));
        vend.report(1, 1, 0, 10);
        CHECKS.due("by the other pact", 1, vend.fine(1, 1));
        CHECKS.due("gain", -413, vend.look(1, 3));
    }

    private static void finesOfNothing() {
        CoalVend vend = new CoalVend();
        vend.owner(1, 5, 3, 0);
        vend.days(30);
        Checks.pact(vend, "issue 10;");
        vend.days(30);
        Checks.pact(vend, "issue 10; fine 9999 * over;");
        vend.days(30);
        for (int month = 0; month < 3; month++) {
            vend.report(0, month, 0, 5);
        }
        CHECKS.due("no pact held", 0, vend.proved(0, 0, 90));
        CHECKS.due("no pact held", -1, vend.fine(0, 0));
        CHECKS.due("no line", 0, vend.fine(0, 1));
        CHECKS.due("once, also by 0", -1, vend.fine(0, 1));
        Checks.pact(vend, "issue 10; fine 0 - 9;");
        Checks.law(vend, "void fine;");
        CHECKS.due("9999 at most, not void yet", 9999, vend.fine(0, 2));
        vend.days(30);
        vend.report(0, 3, 0, 5);
        CHECKS.due("void", 0, vend.fine(0, 3));
        Checks.law(vend, "");
        vend.days(30);
        CHECKS.due("once, also when void", -1, vend.fine(0, 3));
        vend.report(0, 4, 0, 5);
        CHECKS.due("0 at least", 0, vend.fine(0, 4));
        CHECKS.due("gain", -9999, vend.look(0, 3));
    }

    private static void monthFactsInFines() {
        CoalVend vend = new CoalVend();
        vend.keels(6);
        vend.owner(1, 5, 99, 0);
        vend.ship(96, 0);
        Checks.pact(vend, "issue 20 + 20 * month; fine vended * 100 + allotted;");
        vend.days(30);
        CHECKS.due("vended", 16, vend.month(0, 0, 0));
        vend.report(0, 0, 0, 5);
        vend.days(30);
        // On day 60 the month ahead of day 61's is month 1: 40 allotted, 40 vended.
        CHECKS.due("vended and allotted of the month ahead", 4040, vend.fine(0, 0));
    }

    private static void sales() {
        CoalVend vend = new CoalVend();
        CHECKS.due("no owners", -1, vend.sale(1, 5, 5));
        for (int i = 0; i < 4; i++) {
            vend.owner(1, 5, 3, 0);
        }
        int[][] wrong = {{0, 5, 5}, {16, 5, 5}, {-1, 5, 5}, {17, 5, 5}, {1 << 30, 5, 5}, {Integer.MIN_VALUE, 5, 5}, {1, 0, 5},
            {1, 10000, 5}, {1, 5, 0}, {1, 5, 10000}};
        for (int[] w : wrong) {
            CHECKS.due("wrong sale", -1, vend.sale(w[0], w[1], w[2]));
        }
        CHECKS.due("sale", 0, vend.sale(15, 1, 9999));
        CHECKS.due("sale", 1, vend.sale(1, 200, 180));
        CHECKS.due("sale", 2, vend.sale(1, 200, 179));
        CHECKS.due("none is bad without a pact", 0, vend.count(9));
        Checks.pact(vend, "bar 10;");
        CHECKS.due("nor with one in hand", 0, vend.count(9));
        vend.days(1);
        CHECKS.due("21 of 200 are more than a tenth", 1, vend.count(9));
        CHECKS.due("one bad sale names nobody", -1, vend.named(0));
        CHECKS.due("sale", 3, vend.sale(1, 100, 1));
        CHECKS.due("two do", 0, vend.named(0));
        CHECKS.due("two do", -1, vend.named(1));
        CHECKS.due("no such", -1, vend.named(-1));
        Checks.law(vend, "void bar;");
        CHECKS.due("not void yet", 2, vend.count(9));
        vend.days(1);
        CHECKS.due("void", 0, vend.count(9));
        CHECKS.due("void", -1, vend.named(0));
        Checks.law(vend, "");
        Checks.pact(vend, "issue 5;");
        vend.days(28);
        CHECKS.due("bar 10 again", 2, vend.count(9));
        vend.days(1);
        CHECKS.due("no bar", 0, vend.count(9));
        Checks.pact(vend, "bar 0;");
        vend.days(30);
        CHECKS.due("bar 0", 3, vend.count(9));
        for (int i = 4; i < 60; i++) {
            CHECKS.due("sale", i, vend.sale(1, 5, 5));
        }
        CHECKS.due("a sale too many", -1, vend.sale(1, 5, 5));
        CHECKS.due("sales", 60, vend.count(8));
    }

    private static void named(int[] sets, int... want) {
        CoalVend vend = new CoalVend();
        for (int i = 0; i < 10; i++) {
            vend.owner(1, 5, 3, 0);
        }
        Checks.pact(vend, "bar 50;");
        vend.days(1);
        for (int set : sets) {
            vend.sale(set, 10, 4);
        }
        for (int i = 0; i < want.length; i++) {
            CHECKS.due("named(" + i + ")", want[i], vend.named(i));
        }
        CHECKS.due("no more are named", -1, vend.named(want.length));
    }

    private static void naming() {
        named(new int[] {});
        named(new int[] {1});
        named(new int[] {3, 3});
        named(new int[] {3, 6}, 1);
        named(new int[] {3, 12});
        named(new int[] {3, 12, 8}, 3);
        named(new int[] {512, 512}, 9);
        named(new int[] {1, 512, 513}, 0, 9);
        named(new int[] {1, 2, 4, 8, 16, 32, 64, 128, 256, 512}, 0, 1, 2, 3, 4, 5, 6, 7, 8, 9);
        // {0, 1}, {1, 2}, {0, 2} want two of three, and each is missing once
        named(new int[] {3, 6, 5});
        named(new int[] {3, 6, 5, 8}, 3);
        named(new int[] {3, 5, 9, 6}, 0);
    }

    public static void main(String[] args) {
        reports();
        provedAndFined();
        finesOfNothing();
        monthFactsInFines();
        sales();
        naming();
        CHECKS.finish();
    }
}
