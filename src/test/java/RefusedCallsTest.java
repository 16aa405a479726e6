import java.util.NoSuchElementException;

/**
 * Promises 2 to 31: each call that a promise refuses, with the last one beside it that it does not refuse.
 * A refused call changes nothing: a twin that never got it is the same, now and 40 days later.
 */
public final class RefusedCallsTest {
    private static final Checks CHECKS = new Checks();
    private static final int MIN = Integer.MIN_VALUE;
    private static final int MAX = Integer.MAX_VALUE;

    private interface Call {
        int on(CoalVend vend);
    }

    private interface NumberedCall {
        int on(CoalVend vend, int n);
    }

    private RefusedCallsTest() {
    }

    /** Three owners, two ships and a pact on day 35: one month is over, owner 0 has a report of it; two sales are bad. */
    private static CoalVend busy() {
        CoalVend vend = new CoalVend();
        vend.owner(2, 10, 9, 3);
        vend.owner(4, 5, 30, 2);
        vend.owner(0, 7, 12, 1);
        vend.ship(24, 0);
        vend.ship(40, 3);
        vend.winds(1, 8);
        vend.winds(2, 6);
        vend.winds(1, 30);
        vend.city(400, 15, 90);
        Checks.law(vend, "duty 1;");
        Checks.pact(vend, "weight might; issue 60; fine over * 2; bar 10;");
        vend.days(35);
        Checks.pact(vend, "issue 90; rests might;");
        vend.report(0, 0, 0, 9);
        vend.sale(1, 100, 50);
        vend.sale(3, 100, 60);
        Checks.feed(vend, "duty 9;");
        return vend;
    }

    private static int bit(boolean yes) {
        return yes ? 1 : CoalVend.NONE;
    }

    /** The call's answer; NONE if it throws what the document names. */
    private static int caught(Call call, CoalVend vend) {
        try {
            return call.on(vend);
        } catch (NoSuchElementException e) {
            return CoalVend.NONE;
        }
    }

    private static void refused(String what, CoalVend vend, CoalVend twin, Call call) {
        CHECKS.due(what, CoalVend.NONE, caught(call, vend));
        CHECKS.due(what + ", and nothing is changed", true, Seen.of(vend).equals(Seen.of(twin)));
        vend.days(40);
        twin.days(40);
        CHECKS.due(what + ", nor later", true, Seen.of(vend).equals(Seen.of(twin)));
    }

    private static void refused(String what, Call call) {
        refused(what, busy(), busy(), call);
    }

    private static void taken(String what, int want, Call call) {
        CHECKS.due(what, want, caught(call, busy()));
    }

    /** The numbers from least to most are taken (their answer is not NONE), and no others. */
    private static void numbers(int least, int most, NumberedCall call) {
        for (int n : new int[] {MIN, least - 1, most + 1, MAX}) {
            refused("with " + n, vend -> call.on(vend, n));
        }
        for (int n : new int[] {least, most}) {
            CHECKS.due("with " + n + " is taken", false, caught(vend -> call.on(vend, n), busy()) == CoalVend.NONE);
        }
    }

    private static void owner() {
        CHECKS.sentence("2: other numbers: quality 0 to 4");
        numbers(0, 4, (vend, n) -> vend.owner(n, 1, 1, 1));
        CHECKS.sentence("2: other numbers: might 1 to 999");
        numbers(1, 999, (vend, n) -> vend.owner(1, n, 1, 1));
        CHECKS.sentence("2: other numbers: digs 0 to 99");
        numbers(0, 99, (vend, n) -> vend.owner(1, 1, n, 1));
        CHECKS.sentence("2: other numbers: cost 0 to 99");
        numbers(0, 99, (vend, n) -> vend.owner(1, 1, 1, n));
        CHECKS.sentence("2: NONE: 10 are there");
        CoalVend vend = busy();
        CoalVend twin = busy();
        for (int i = 3; i < 10; i++) {
            CHECKS.due("owner", i, vend.owner(1, 1, 1, 1));
            twin.owner(1, 1, 1, 1);
        }
        refused("an eleventh", vend, twin, full -> full.owner(1, 1, 1, 1));
        CHECKS.sentence("2: It has no ALLOTMENT in this MONTH if a PACT holds: 0");
        CoalVend late = busy();
        late.owner(4, 999, 99, 0);
        CHECKS.due("allotment", 0, late.look(3, 2));
        late.days(20);
        CHECKS.due("vended", 0, late.look(3, 1));
        late.days(10);
        CHECKS.due("allotment of the next month: 22 of 90, and 1 of the 2 left for its might", 23, late.look(3, 2));
        CHECKS.due("none was told where a pact held", 0, late.month(3, 1, 1));
    }

    private static void changesOfOwners() {
        CHECKS.sentence("3: false: none such");
        numbers(0, 2, (vend, n) -> bit(vend.digs(n, 5)));
        CHECKS.sentence("3: false: another number");
        numbers(0, 99, (vend, n) -> bit(vend.digs(1, n)));
        CHECKS.sentence("4: false: none such");
        numbers(0, 2, (vend, n) -> bit(vend.rebate(n, 5)));
        CHECKS.sentence("4: false: another one");
        numbers(0, 50, (vend, n) -> bit(vend.rebate(1, n)));
        CHECKS.sentence("5: false: none such");
        numbers(0, 2, (vend, n) -> bit(vend.breaker(n, true)));
        numbers(0, 2, (vend, n) -> bit(vend.breaker(n, false)));
    }

    private static void ship() {
        CHECKS.sentence("6: other numbers: room 8 to 96");
        numbers(8, 96, (vend, n) -> vend.ship(n, 1));
        CHECKS.sentence("6: other numbers: the least quality 0 to 4");
        numbers(0, 4, (vend, n) -> vend.ship(9, n));
        CHECKS.sentence("6: NONE: 8 are there");
        CoalVend vend = busy();
        CoalVend twin = busy();
        for (int i = 2; i < 8; i++) {
            CHECKS.due("ship", i, vend.ship(8, 0));
            twin.ship(8, 0);
        }
        refused("a ninth", vend, twin, full -> full.ship(8, 0));
    }

    private static void keelsWindsAndCity() {
        CHECKS.sentence("7: false: another number");
        numbers(0, 6, (vend, n) -> bit(vend.keels(n)));
        CHECKS.sentence("8: NONE: no such WIND");
        numbers(0, 3, (vend, n) -> vend.winds(n, 1));
        CHECKS.sentence("8: NONE: another n");
        numbers(1, 60, (vend, n) -> vend.winds(2, n));
        CHECKS.sentence("8: NONE: beyond 720");
        CoalVend vend = new CoalVend();
        for (int i = 1; i < 12; i++) {
            CHECKS.due("winds", 60 * i, vend.winds(1, 60));
        }
        CHECKS.due("winds", 719, vend.winds(1, 59));
        CHECKS.due("the 720th and the 721st", -1, vend.winds(3, 2));
        CHECKS.due("neither of them is told", 719, vend.count(14));
        CHECKS.due("the 720th", 720, vend.winds(3, 1));
        CHECKS.due("the 721st", -1, vend.winds(3, 1));
        CHECKS.sentence("9: false: other numbers: stock 0 to 99999");
        numbers(0, 99999, (city, n) -> bit(city.city(n, 5, 5)));
        CHECKS.sentence("9: false: other numbers: WANT 0 to 999");
        numbers(0, 999, (city, n) -> bit(city.city(5, n, 5)));
        CHECKS.sentence("9: false: other numbers: BASE 1 to 999");
        numbers(1, 999, (city, n) -> bit(city.city(5, 5, n)));
    }

    private static void daysAndPrice() {
        CHECKS.sentence("13: NONE for another n: 0 to 60");
        numbers(0, 60, CoalVend::days);
        CHECKS.sentence("13: n DAYS go by, 0 too: NOW");
        refused("0 days", vend -> vend.days(0) == 35 ? CoalVend.NONE : 0);
        CHECKS.sentence("13: NONE beyond 720");
        CoalVend vend = busy();
        for (int i = 0; i < 11; i++) {
            vend.days(60);
        }
        CHECKS.due("35 and 660", 695, vend.count(0));
        CHECKS.due("26 are too many", -1, vend.days(26));
        CHECKS.due("and none of them goes by", 695, vend.count(0));
        CHECKS.due("25 are not", 720, vend.days(25));
        CHECKS.due("one more", -1, vend.days(1));
        CHECKS.due("none more", 720, vend.days(0));
        CHECKS.sentence("14: NONE: none such");
        numbers(0, 4, CoalVend::price);
    }

    private static void report() {
        CHECKS.sentence("15: NONE: no such OWNER");
        numbers(0, 2, (vend, n) -> vend.report(n, 0, 0, 1));
        CHECKS.sentence("15: NONE: no such MONTH");
        for (int month : new int[] {MIN, -1, 24, MAX}) {
            refused("month " + month, vend -> vend.report(0, month, 0, 1));
        }
        CHECKS.sentence("15: NONE: the MONTH is not over");
        refused("month 1 on day 35", vend -> vend.report(0, 1, 0, 1));
        CoalVend ending = busy();
        ending.days(24);
        CHECKS.due("month 1 on day 59", -1, ending.report(0, 1, 0, 1));
        ending.days(1);
        CHECKS.due("month 1 on day 60", 1, ending.report(0, 1, 0, 1));
        CHECKS.sentence("15: NONE: no such kind");
        numbers(0, 2, (vend, n) -> vend.report(0, 0, n, 1));
        CHECKS.sentence("15: NONE: no such number: 0 to 9999");
        numbers(0, 9999, (vend, n) -> vend.report(0, 0, 0, n));
        CHECKS.sentence("15: NONE: 200 are told");
        CoalVend vend = busy();
        CoalVend twin = busy();
        for (int i = 1; i < 200; i++) {
            CHECKS.due("its number", i, vend.report(i % 3, 0, i % 2, 50));
            twin.report(i % 3, 0, i % 2, 50);
        }
        refused("the 201st", vend, twin, full -> full.report(0, 0, 0, 99));
        CHECKS.due("reports", 200, vend.count(7));
    }

    private static void knownProvedAndFined() {
        CHECKS.sentence("16: NONE: none such");
        numbers(0, 2, (vend, n) -> vend.known(n, 0, 35, 0));
        numbers(0, 0, (vend, n) -> vend.known(0, n, 35, 0));
        numbers(0, 35, (vend, n) -> vend.known(0, 0, n, 0));
        numbers(0, 2, (vend, n) -> vend.known(0, 0, 35, n));
        CHECKS.sentence("16: NONE: the MONTH is not over");
        CoalVend vend = busy();
        vend.days(24);
        CHECKS.due("month 1 on day 59", -1, vend.known(0, 1, 35, 0));
        CHECKS.sentence("17: NONE: the MONTH is not over");
        CHECKS.due("month 1 on day 59", -1, vend.proved(0, 1, 35));
        vend.days(1);
        CHECKS.due("month 1 on day 60", 0, vend.proved(0, 1, 35));
        CHECKS.due("month 1 on day 60", 0, vend.known(0, 1, 35, 0));
        CHECKS.sentence("17: NONE: none such");
        numbers(0, 2, (of, n) -> of.proved(n, 0, 35));
        numbers(0, 0, (of, n) -> of.proved(0, n, 35));
        numbers(0, 35, (of, n) -> of.proved(0, 0, n));
        CHECKS.sentence("18: NONE: none such");
        for (int n : new int[] {MIN, -1, 3, MAX}) {
            refused("owner " + n, of -> of.fine(n, 0));
        }
        for (int n : new int[] {MIN, -1, 24, MAX}) {
            refused("month " + n, of -> of.fine(0, n));
        }
        CHECKS.sentence("18: NONE: the MONTH is not over");
        refused("month 1", of -> of.fine(0, 1));
        CHECKS.sentence("18: NONE: nothing is PROVED now");
        refused("nothing is told of owner 1", of -> of.fine(1, 0));
        CHECKS.sentence("18: NONE: it was FINED for it");
        // Of 60 * 10 / 22 the rest 6 is not the greatest: 63 seen are 36 more than 27.
        refused("once more", of -> of.fine(0, 0) == 72 ? CoalVend.NONE : 0, of -> of.fine(0, 0));
    }

    private static void saleAndNamed() {
        CHECKS.sentence("19: NONE: an OWNER of it is none");
        for (int set : new int[] {MIN, -1, 8, 9, 1 << 10, 1 << 30, MAX}) {
            refused("set " + set, vend -> vend.sale(set, 5, 5));
        }
        CHECKS.sentence("4: SALES are told: the OWNERS (a set, not none)");
        refused("no owner", vend -> vend.sale(0, 5, 5));
        taken("all owners", 2, vend -> vend.sale(7, 5, 5));
        CHECKS.sentence("19: NONE: other numbers: due 1 to 9999");
        numbers(1, 9999, (vend, n) -> vend.sale(1, n, 5));
        CHECKS.sentence("19: NONE: other numbers: paid 1 to 9999");
        numbers(1, 9999, (vend, n) -> vend.sale(1, 5, n));
        CHECKS.sentence("19: NONE: 60 are told");
        CoalVend vend = busy();
        CoalVend twin = busy();
        for (int i = 2; i < 60; i++) {
            CHECKS.due("its number", i, vend.sale(2, 5, 5));
            twin.sale(2, 5, 5);
        }
        refused("the 61st", vend, twin, full -> full.sale(2, 5, 1));
        CHECKS.due("SALES", 60, vend.count(8));
        CHECKS.sentence("20: NONE: none");
        numbers(0, 0, CoalVend::named);
    }

    private static void whatIfs() {
        CHECKS.sentence("21: NoSuchElementException: no such set");
        numbersOrLess(0, 7, (vend, n) -> vend.whatIf(n, 0, 5));
        CHECKS.sentence("21: NoSuchElementException: no such OWNER");
        numbersOrLess(0, 2, (vend, n) -> vend.whatIf(0, n, 5));
        CHECKS.sentence("21: NoSuchElementException: no such n");
        numbersOrLess(0, 60, (vend, n) -> vend.whatIf(0, 0, n));
        CHECKS.sentence("22: NONE: no such set");
        numbers(0, 7, (vend, n) -> vend.tempted(n, 0, 5));
        CHECKS.sentence("22: NONE: no such OWNER");
        numbers(0, 2, (vend, n) -> vend.tempted(0, n, 5));
        CHECKS.sentence("22: NONE: no such n (0 to 60)");
        numbers(0, 60, (vend, n) -> vend.tempted(0, 0, n));
        CHECKS.sentence("23: NONE: another n (1 to 30)");
        numbers(1, 30, (vend, n) -> vend.slide(n, 0));
        CHECKS.sentence("23: NONE: another what");
        numbers(0, 1, (vend, n) -> vend.slide(3, n));
        CHECKS.sentence("24: NoSuchElementException: another ISSUE (0 to 9999)");
        numbersOrLess(0, 9999, CoalVend::tried);
        CHECKS.sentence("25: NONE: another s (1 to 400)");
        numbers(1, 400, CoalVend::best);
        CHECKS.sentence("26: NONE: none is");
        refused("a full city", vend -> vend.city(9000, 15, 90) ? CoalVend.NONE : 0, vend -> vend.foretold(false));
        refused("a full city in frost", vend -> vend.city(9000, 15, 90) ? CoalVend.NONE : 0, vend -> vend.foretold(true));
    }

    /** Both twins are readied first. */
    private static void refused(String what, Call ready, Call call) {
        CoalVend vend = busy();
        CoalVend twin = busy();
        CHECKS.due(what, CoalVend.NONE, ready.on(vend));
        ready.on(twin);
        refused(what, vend, twin, call);
    }

    /** As numbers, where -1 may be a sum of gains: what is refused throws, what is taken does not. */
    private static void numbersOrLess(int least, int most, NumberedCall call) {
        for (int n : new int[] {MIN, least - 1, most + 1, MAX}) {
            CHECKS.throwsNoSuchElement("with " + n, () -> call.on(busy(), n));
            refused("with " + n, vend -> call.on(vend, n));
        }
        for (int n : new int[] {least, most}) {
            CHECKS.due("with " + n + " is taken", false, throwsAny(() -> call.on(busy(), n)));
        }
    }

    private static boolean throwsAny(Runnable call) {
        try {
            call.run();
            return false;
        } catch (RuntimeException e) {
            return true;
        }
    }

    private static void looks() {
        CHECKS.sentence("27: NoSuchElementException: none such");
        numbersOrLess(0, 2, (vend, n) -> vend.look(n, 5));
        numbersOrLess(0, 9, (vend, n) -> vend.look(0, n));
        CHECKS.sentence("28: NONE: none such");
        numbers(0, 2, (vend, n) -> vend.month(n, 0, 0));
        numbers(0, 0, (vend, n) -> vend.month(0, n, 0));
        numbers(0, 1, (vend, n) -> vend.month(0, 0, n));
        CHECKS.sentence("28: NONE: it is not over");
        CoalVend vend = busy();
        vend.days(24);
        CHECKS.due("month 1 on day 59", -1, vend.month(0, 1, 0));
        vend.days(1);
        CHECKS.due("month 1 on day 60", false, vend.month(0, 1, 0) == CoalVend.NONE);
        CHECKS.sentence("29: NONE: none such");
        numbers(0, 1, (of, n) -> of.lies(n, 0));
        numbers(0, 3, (of, n) -> of.lies(0, n));
        CHECKS.sentence("30: NONE: none such");
        CoalVend loaded = new CoalVend();
        loaded.owner(0, 1, 99, 0);
        loaded.owner(0, 1, 99, 0);
        loaded.ship(96, 0);
        loaded.ship(8, 4);
        loaded.days(2);
        int[][] wrong = {{-1, 0}, {2, 0}, {MIN, 0}, {MAX, 0}, {0, -1}, {0, 4}, {0, MIN}, {0, MAX}, {1, 0}};
        for (int[] w : wrong) {
            CHECKS.due("load(" + w[0] + ", " + w[1] + ")", -1, loaded.load(w[0], w[1]));
        }
        CHECKS.due("load(0, 0)", 0, loaded.load(0, 0));
        CHECKS.due("load(0, 3)", 1, loaded.load(0, 3));
        CHECKS.sentence("31: NONE for another what");
        numbers(0, 16, CoalVend::count);
    }

    public static void main(String[] args) {
        owner();
        changesOfOwners();
        ship();
        keelsWindsAndCity();
        daysAndPrice();
        report();
        knownProvedAndFined();
        saleAndNamed();
        whatIfs();
        looks();
        CHECKS.finish();
    }
}
