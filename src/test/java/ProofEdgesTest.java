/** The sentences of part 4 (REPORTS, fines, SALES) that name a boundary case, in the document's order: a test for each. */
public final class ProofEdgesTest {
    private static final Checks CHECKS = new Checks();
    private static final int KEELS = 0;
    private static final int BILLS = 1;
    private static final int SACKS = 2;

    private ProofEdgesTest() {
    }

    /** So many owners on day 30, behind a month in which a pact held that allots 50 to each; it goes on without an issue. */
    private static CoalVend monthOver(int owners) {
        return monthOver(owners, "issue 50; fine over;");
    }

    private static CoalVend monthOver(int owners, String pact) {
        CoalVend vend = new CoalVend();
        for (int i = 0; i < owners; i++) {
            vend.owner(0, 1, 0, 0);
        }
        CHECKS.due("pact " + pact, 0, Checks.pact(vend, pact));
        vend.days(30);
        return vend;
    }

    private static void known(String what, CoalVend vend, int t, int low, int high) {
        CHECKS.due(what + ": from", low, vend.known(0, 0, t, 0));
        CHECKS.due(what + ": to", high, vend.known(0, 0, t, 1));
        CHECKS.due(what + ": DOUBTED", low > high ? 1 : 0, vend.known(0, 0, t, 2));
    }

    private static void tells(int kind, int n, int low, int high) {
        CoalVend vend = monthOver(1);
        CHECKS.due("its number", 0, vend.report(0, 0, kind, n));
        known("kind " + kind + " of " + n, vend, 30, low, high);
    }

    private static void kinds() {
        CHECKS.sentence("KEELS seen: it VENDED 7 * n to 9 * n");
        tells(KEELS, 0, 0, 0);
        tells(KEELS, 1, 7, 9);
        tells(KEELS, 9999, 69993, 89991);
        CHECKS.sentence("bills: n less a 50th, cut, to n and a 50th, cut");
        tells(BILLS, 0, 0, 0);
        tells(BILLS, 49, 49, 49);
        tells(BILLS, 50, 49, 51);
        tells(BILLS, 99, 98, 100);
        tells(BILLS, 100, 98, 102);
        tells(BILLS, 9999, 9800, 10198);
        CHECKS.sentence("sacks at the city: n / 4, cut, to n / 3, cut upwards");
        tells(SACKS, 0, 0, 0);
        tells(SACKS, 1, 0, 1);
        tells(SACKS, 3, 0, 1);
        tells(SACKS, 4, 1, 2);
        tells(SACKS, 6, 1, 2);
        tells(SACKS, 7, 1, 3);
        tells(SACKS, 8, 2, 3);
        tells(SACKS, 9998, 2499, 3333);
        tells(SACKS, 9999, 2499, 3333);
    }

    private static void knownOnADay() {
        CHECKS.sentence("KNOWN: 0 to 9999 without any");
        CoalVend vend = monthOver(2);
        known("no REPORT at all", vend, 30, 0, 9999);
        vend.report(1, 0, BILLS, 80);
        known("one of another OWNER", vend, 30, 0, 9999);
        vend.days(30);
        vend.report(0, 1, BILLS, 80);
        known("one of another MONTH", vend, 60, 0, 9999);
        CHECKS.sentence("the REPORTS told on t or ahead");
        vend.report(0, 0, BILLS, 100);
        known("on day 60", vend, 60, 98, 102);
        known("on day 59", vend, 59, 0, 9999);
        known("on day 0", vend, 0, 0, 9999);
        vend.days(1);
        vend.report(0, 0, BILLS, 101);
        known("on day 61", vend, 61, 99, 102);
        known("on day 60", vend, 60, 98, 102);
        CHECKS.sentence("from the greatest low to the least high");
        vend.days(1);
        vend.report(0, 0, KEELS, 11);
        known("77 to 99 too", vend, 62, 99, 99);
        vend.report(0, 0, BILLS, 99);
        known("98 to 100 too", vend, 62, 99, 99);
        CHECKS.sentence("DOUBTED if the first is above the second");
        vend.days(1);
        vend.report(0, 0, BILLS, 102);
        known("100 to 104 too", vend, 63, 100, 99);
    }

    private static int proved(CoalVend vend) {
        return vend.proved(0, 0, vend.count(0));
    }

    private static void proved() {
        CHECKS.sentence("PROVED: the low less the ALLOTMENT, 0 at least");
        int[][] bills = {{0, 0}, {49, 0}, {51, 0}, {52, 1}, {100, 48}};
        for (int[] b : bills) {
            CoalVend vend = monthOver(1);
            vend.report(0, 0, BILLS, b[0]);
            CHECKS.due("bills of " + b[0], b[1], proved(vend));
        }
        CHECKS.due("no REPORT", 0, proved(monthOver(1)));
        CHECKS.sentence("if not DOUBTED");
        CoalVend vend = monthOver(1);
        vend.report(0, 0, BILLS, 100);
        vend.days(1);
        vend.report(0, 0, KEELS, 10);
        CHECKS.due("98 to 90", 0, proved(vend));
        CHECKS.due("98 to 102 on the day ahead", 48, vend.proved(0, 0, 30));
        vend = monthOver(1, "issue 40;");
        vend.report(0, 0, BILLS, 49);
        CHECKS.due("49 to 49 is not DOUBTED", 9, proved(vend));
        CHECKS.sentence("and a PACT held in that MONTH; else 0");
        vend = new CoalVend();
        vend.owner(0, 1, 0, 0);
        vend.days(30);
        Checks.pact(vend, "issue 50;");
        vend.days(1);
        vend.report(0, 0, BILLS, 100);
        CHECKS.due("the first holds since month 1", 0, proved(vend));
        CHECKS.sentence("less the ALLOTMENT of that MONTH");
        vend = monthOver(1);
        Checks.pact(vend, "issue 9999;");
        vend.days(30);
        vend.owner(0, 1, 0, 0);
        vend.report(0, 0, BILLS, 100);
        CHECKS.due("50, not 9999", 48, proved(vend));
        vend.report(1, 0, BILLS, 100);
        CHECKS.due("an OWNER told later had none", 98, vend.proved(1, 0, 60));
    }

    private static int fineOf(String line, String law) {
        CoalVend vend = monthOver(1, "issue 50; " + line);
        Checks.law(vend, law);
        vend.days(1);
        vend.report(0, 0, BILLS, 100);
        int sum = vend.fine(0, 0);
        CHECKS.due(line + " its GAIN has it less", -sum, vend.look(0, 3));
        CHECKS.due(line + " once more", -1, vend.fine(0, 0));
        CHECKS.due(line + " nothing more", -sum, vend.look(0, 3));
        return sum;
    }

    private static void fined() {
        CHECKS.sentence("over being what is PROVED now (it must be above 0)");
        CoalVend vend = monthOver(1);
        CHECKS.due("nothing is", -1, vend.fine(0, 0));
        vend.report(0, 0, BILLS, 51);
        CHECKS.due("50 are not above 50", -1, vend.fine(0, 0));
        vend.days(1);
        vend.report(0, 0, BILLS, 52);
        CHECKS.due("51 are", 1, vend.fine(0, 0));
        vend = monthOver(1);
        vend.report(0, 0, KEELS, 13);
        vend.days(1);
        vend.report(0, 0, BILLS, 100);
        CHECKS.due("now 48, no longer 41", 48, vend.fine(0, 0));
        vend = monthOver(1);
        vend.report(0, 0, BILLS, 100);
        vend.days(1);
        vend.report(0, 0, KEELS, 10);
        CHECKS.due("48 were, but now it is DOUBTED", -1, vend.fine(0, 0));
        CHECKS.sentence("FINED is an OWNER of a MONTH once (also by 0)");
        CHECKS.due("48", 48, fineOf("fine over;", ""));
        CHECKS.due("by 0", 0, fineOf("fine 0;", ""));
        vend = monthOver(2);
        vend.days(30);
        vend.report(0, 0, BILLS, 40);
        vend.report(1, 0, BILLS, 100);
        vend.report(0, 1, BILLS, 100);
        CHECKS.due("of another MONTH", 73, vend.fine(0, 1));
        CHECKS.due("another OWNER", 73, vend.fine(1, 0));
        CHECKS.due("both GAINS", -146, vend.look(0, 3) + vend.look(1, 3));
        CHECKS.sentence("within 0 and 9999 (0 without one, or if it is void now)");
        CHECKS.due("below 0", 0, fineOf("fine 0 - over;", ""));
        CHECKS.due("9999", 9999, fineOf("fine over * 208 + 15;", ""));
        CHECKS.due("10000", 9999, fineOf("fine over * 208 + 16;", ""));
        CHECKS.due("without one", 0, fineOf("", ""));
        CHECKS.due("void", 0, fineOf("fine over;", "void fine;"));
        CHECKS.due("another KIND is void", 48, fineOf("fine over;", "void bar; void fall;"));
        CHECKS.sentence("of the PACT that held then");
        vend = monthOver(1);
        Checks.pact(vend, "issue 9; fine 7 * over; fall when 1;");
        vend.days(1);
        vend.report(0, 0, BILLS, 100);
        CHECKS.due("none holds now", 48, vend.fine(0, 0));
    }

    private static void lastMonthOfTheLastOwner() {
        CHECKS.sentence("OWNERS, 10 at most; MONTH (0 to 23)");
        CoalVend vend = monthOver(10, "issue 500; fine over + month;");
        for (int i = 0; i < 11; i++) {
            vend.days(60);
        }
        vend.days(29);
        CHECKS.due("on day 719", -1, vend.report(9, 23, BILLS, 100));
        vend.days(1);
        CHECKS.due("on day 720", 0, vend.report(9, 23, BILLS, 100));
        CHECKS.due("known", 98, vend.known(9, 23, 720, 0));
        CHECKS.due("known the day ahead", 0, vend.known(9, 23, 719, 0));
        CHECKS.due("PROVED", 48, vend.proved(9, 23, 720));
        CHECKS.due("FINED, and DAY NOW + 1 would be of MONTH 24", 48 + 24, vend.fine(9, 23));
        CHECKS.due("once", -1, vend.fine(9, 23));
        CHECKS.due("there is no MONTH 24", -1, vend.report(9, 24, BILLS, 100));
    }

    private static int bad(String pact, int due, int paid) {
        CoalVend vend = monthOver(1, pact);
        CHECKS.due("its number", 0, vend.sale(1, due, paid));
        return vend.count(9);
    }

    private static void badSales() {
        CHECKS.sentence("BAD is one with (due - paid) * 100 above due * bar");
        CHECKS.due("a tenth", 0, bad("bar 10;", 100, 90));
        CHECKS.due("more than a tenth", 1, bad("bar 10;", 100, 89));
        CHECKS.due("10 of 101 are less than a tenth", 0, bad("bar 10;", 101, 91));
        CHECKS.due("10 of 99 are more", 1, bad("bar 10;", 99, 89));
        CHECKS.due("bar 0, all paid", 0, bad("bar 0;", 100, 100));
        CHECKS.due("bar 0, 1 less", 1, bad("bar 0;", 9999, 9998));
        CHECKS.due("bar 0, more paid", 0, bad("bar 0;", 1, 9999));
        CHECKS.due("bar 50, half paid", 0, bad("bar 50;", 9998, 4999));
        CHECKS.due("bar 50, not half paid", 1, bad("bar 50;", 9999, 4999));
        CHECKS.due("nearly nothing paid", 1, bad("bar 50;", 9999, 1));
        CHECKS.sentence("of the PACT that holds; without one, or void: none is BAD");
        CHECKS.due("no line", 0, bad("issue 5;", 9999, 1));
        CHECKS.due("it fell", 0, bad("bar 0; fall when 1;", 9999, 1));
        CoalVend vend = new CoalVend();
        vend.owner(0, 1, 0, 0);
        vend.sale(1, 9999, 1);
        CHECKS.due("no PACT", 0, vend.count(9));
        Checks.pact(vend, "bar 0;");
        CHECKS.due("one in hand", 0, vend.count(9));
        vend.days(1);
        CHECKS.due("it holds", 1, vend.count(9));
        Checks.law(vend, "void bar;");
        vend.days(1);
        CHECKS.due("void", 0, vend.count(9));
        Checks.law(vend, "void fine;");
        vend.days(1);
        CHECKS.due("another KIND is void", 1, vend.count(9));
    }

    private static void named(String what, int[] sets, int... want) {
        CoalVend vend = monthOver(10, "bar 50;");
        for (int set : sets) {
            vend.sale(set, 10, 4);
            vend.sale(1024 - set, 10, 5);
        }
        CHECKS.due(what + ": BAD ones", sets.length, vend.count(9));
        for (int i = 0; i < want.length; i++) {
            CHECKS.due(what + ": the " + i + "th", want[i], vend.named(i));
        }
        CHECKS.due(what + ": no more", -1, vend.named(want.length));
    }

    private static void names() {
        CHECKS.sentence("if there are two BAD ones at least");
        named("no SALE", new int[] {});
        named("one", new int[] {1});
        named("one of the last", new int[] {512});
        named("two", new int[] {1, 1}, 0);
        CHECKS.sentence("NAMED are those that are in each set of the fewest OWNERS that explains them");
        named("two sets of one each", new int[] {3, 3});
        named("one in both", new int[] {3, 6}, 1);
        named("one in all of three", new int[] {7, 14, 28}, 2);
        named("two apart, no set is the only one", new int[] {3, 12});
        named("two apart, the one for sure", new int[] {1, 12}, 0);
        named("first and last", new int[] {1, 512}, 0, 9);
        named("all ten", new int[] {1, 2, 4, 8, 16, 32, 64, 128, 256, 512}, 0, 1, 2, 3, 4, 5, 6, 7, 8, 9);
        named("any two of three", new int[] {3, 5, 6});
        named("any two of three and one apart", new int[] {3, 5, 6, 256}, 8);
        named("the fewest are two: 0 and 3", new int[] {1, 9, 10, 12}, 0, 3);
        named("everybody", new int[] {1023, 1023});
        CHECKS.sentence("The i-th of those NAMED, by numbers; NONE: none");
        CoalVend vend = monthOver(10, "bar 50;");
        vend.sale(512, 10, 4);
        vend.sale(1, 10, 4);
        CHECKS.due("the least first", 0, vend.named(0));
        CHECKS.due("the greatest last", 9, vend.named(1));
        for (int i : new int[] {-1, 2, 10, 32, Integer.MAX_VALUE, Integer.MIN_VALUE}) {
            CHECKS.due("named(" + i + ")", -1, vend.named(i));
        }
    }

    public static void main(String[] args) {
        kinds();
        knownOnADay();
        proved();
        fined();
        lastMonthOfTheLastOwner();
        badSales();
        names();
        CHECKS.finish();
    }
}
