/** Promises 21 to 26 and part 5 of the document. */
public final class WhatIfTest {
    private static final Checks CHECKS = new Checks();

    private WhatIfTest() {
    }

    /** Two owners under a pact of 8 each: one ship, and winds that take it out and home again. */
    private static CoalVend small() {
        CoalVend vend = new CoalVend();
        vend.keels(6);
        vend.owner(0, 1, 20, 5);
        vend.owner(0, 1, 20, 5);
        vend.ship(32, 0);
        vend.city(0, 50, 100);
        Checks.pact(vend, "issue 16;");
        for (int i = 0; i < 6; i++) {
            vend.winds(1, 12);
            vend.winds(2, 5);
        }
        return vend;
    }

    private static void whatIf() {
        CoalVend vend = small();
        CHECKS.due("no days", 0, vend.whatIf(0, 0, 0));
        CHECKS.due("not at the city yet", 0, vend.whatIf(0, 0, 12));
        // Nobody breaks: a load of each sails on day 10 and comes on day 13, at 100 * 60 * 50 / 1500 = 200.
        CHECKS.due("day 13 is not a day out", 0, vend.whatIf(0, 0, 17));
        CHECKS.due("one load", 8 * 195, vend.whatIf(0, 0, 18));
        CHECKS.due("one load", 8 * 195, vend.whatIf(0, 1, 18));
        // 0 breaks: its own 8, a load of 1's and 16 more fill the ship by day 2, which comes on day 5.
        CHECKS.due("three loads", 3 * 8 * 195, vend.whatIf(1, 0, 5));
        CHECKS.due("the other has one", 8 * 195, vend.whatIf(1, 1, 5));
        CHECKS.due("nothing is changed", 0, vend.count(0));
        CHECKS.due("nothing is changed", 1, vend.count(16));
        CHECKS.due("nothing is changed", 0, vend.look(0, 3));
        CHECKS.due("nothing is changed", 0, vend.look(0, 4));
        vend.days(18);
        CHECKS.due("as foretold", 8 * 195, vend.look(0, 3));
        CHECKS.due("more than now", 0, vend.whatIf(0, 0, 3));
        int[][] wrong = {{4, 0, 1}, {-1, 0, 1}, {Integer.MIN_VALUE, 0, 1}, {0, 2, 1}, {0, -1, 1}, {0, 0, -1}, {0, 0, 61}};
        for (int[] w : wrong) {
            CHECKS.throwsNoSuchElement("whatIf", () -> vend.whatIf(w[0], w[1], w[2]));
            CHECKS.due("tempted", -1, vend.tempted(w[0], w[1], w[2]));
        }
        CHECKS.due("all sets", 0, vend.whatIf(3, 1, 0));
    }

    private static void asItComes() {
        for (int set = 0; set < 4; set++) {
            CoalVend vend = small();
            vend.days(7);
            CoalVend twin = small();
            twin.days(7);
            for (int o = 0; o < 2; o++) {
                twin.breaker(o, (set >> o & 1) == 1);
            }
            int ahead = vend.look(0, 3);
            twin.days(60);
            CHECKS.due("whatIf as it comes", twin.look(0, 3) - ahead, vend.whatIf(set, 0, 60));
        }
    }

    private static void temptedAndSlide() {
        CoalVend vend = small();
        CHECKS.due("by 5 days", 1, vend.tempted(0, 0, 5));
        CHECKS.due("the set's own bit is nothing", 1, vend.tempted(1, 0, 5));
        CHECKS.due("by 4 days", 0, vend.tempted(0, 0, 4));
        CHECKS.due("by none", 0, vend.tempted(0, 0, 0));
        CHECKS.due("if the other breaks", 1, vend.tempted(1, 1, 5));
        CHECKS.due("slide", 3, vend.slide(5, 0));
        CHECKS.due("steps", 2, vend.slide(5, 1));
        CHECKS.due("slide", 0, vend.slide(4, 0));
        CHECKS.due("steps", 0, vend.slide(4, 1));
        vend.breaker(1, true);
        CHECKS.due("from the breakers there are", 3, vend.slide(5, 0));
        CHECKS.due("one step", 1, vend.slide(5, 1));
        CHECKS.due("with no time", 2, vend.slide(1, 0));
        CHECKS.due("nobody is changed", 1, vend.count(12));
        int[][] wrong = {{0, 0}, {31, 0}, {-1, 0}, {5, 2}, {5, -1}};
        for (int[] w : wrong) {
            CHECKS.due("slide", -1, vend.slide(w[0], w[1]));
        }
        CHECKS.due("30 days", true, vend.slide(30, 1) >= 0);
    }

    private static void triedAndBest() {
        CoalVend vend = small();
        CHECKS.throwsNoSuchElement("tried(-1)", () -> vend.tried(-1));
        CHECKS.throwsNoSuchElement("tried(10000)", () -> vend.tried(10000));
        CHECKS.due("best(0)", -1, vend.best(0));
        CHECKS.due("best(401)", -1, vend.best(401));
        CHECKS.due("best(-1)", -1, vend.best(-1));
        CHECKS.due("nothing is shipped", 0, vend.tried(0));
        CHECKS.due("4 each are no load", 0, vend.tried(8));
        CHECKS.due("8 and 7 are one load, that waits till day 10 and comes on day 18", 8 * 195, vend.tried(15));
        CHECKS.due("two loads", 2 * 8 * 195, vend.tried(16));
        CHECKS.due("four loads on day 5, and no way out again by day 30", 4 * 8 * 195, vend.tried(32));
        CHECKS.due("the ship is home on day 16 and leaves on day 18", true, vend.tried(64) >= vend.tried(32));
        Checks.law(vend, "void issue;");
        CHECKS.due("also if void", 2 * 8 * 195, vend.tried(16));
        int best = vend.best(8);
        for (int i = 0; i <= 20; i++) {
            CHECKS.due("none is more", true, vend.tried(8 * i) <= vend.tried(best));
            CHECKS.due("of equal ones the least", true, 8 * i >= best || vend.tried(8 * i) < vend.tried(best));
        }
        CHECKS.due("nothing is changed", 0, vend.count(5));
        vend.days(1);
        CHECKS.due("the month of day 1 began: the issue is void", 9999, vend.count(6));
        CHECKS.due("the issue tried is of the next month", vend.tried(8000), vend.tried(8));
    }

    private static void triedAtTheEnd() {
        CoalVend vend = new CoalVend();
        vend.owner(0, 1, 20, 5);
        vend.ship(8, 0);
        for (int i = 0; i < 12; i++) {
            vend.winds(1, 60);
        }
        for (int i = 0; i < 11; i++) {
            vend.days(60);
        }
        vend.days(57);
        int gain = vend.look(0, 3);
        CHECKS.due("it lies at the city", 2, vend.lies(0, 0));
        CHECKS.due("three days are left", 0, vend.whatIf(0, 0, 60));
        CHECKS.due("no month begins", gain, vend.tried(5));
        CHECKS.due("all the same", 0, vend.best(400));
        vend.days(3);
        CHECKS.due("no day is left", 0, vend.whatIf(0, 0, 60));
        CHECKS.due("no day is left", gain, vend.tried(5));
        CHECKS.due("the gain", true, gain > 0);
    }

    private static void foretold() {
        CoalVend vend = new CoalVend();
        CHECKS.due("hungry at once", 1, vend.foretold(false));
        vend.city(590, 10, 1);
        CHECKS.due("59 days' stock", 60, vend.foretold(false));
        CHECKS.due("in frost", 30, vend.foretold(true));
        vend.city(600, 10, 1);
        CHECKS.due("60 days' stock", -1, vend.foretold(false));
        CHECKS.due("in frost", 31, vend.foretold(true));
        CHECKS.due("nothing is changed", 600, vend.count(4));
        vend.winds(3, 1);
        CHECKS.due("a day of frost", 60, vend.foretold(false));
        vend.city(0, 0, 1);
        CHECKS.due("nothing is wanted", -1, vend.foretold(true));
        vend.days(60);
        vend.city(600, 10, 1);
        CHECKS.due("from now on", -1, vend.foretold(false));
        vend.city(599, 10, 1);
        CHECKS.due("from now on", 120, vend.foretold(false));
    }

    private static void frostStopsTheShips() {
        CoalVend vend = new CoalVend();
        vend.owner(0, 1, 99, 0);
        vend.ship(96, 0);
        vend.keels(6);
        vend.winds(1, 60);
        vend.city(50, 10, 1);
        // Full on day 2, the ship comes on day 5 with 96: then 106 less 10 a day from day 5 on.
        CHECKS.due("the ship helps", 15, vend.foretold(false));
        CHECKS.due("no ship, twice the want", 3, vend.foretold(true));
    }

    public static void main(String[] args) {
        whatIf();
        asItComes();
        temptedAndSlide();
        triedAndBest();
        triedAtTheEnd();
        foretold();
        frostStopsTheShips();
        CHECKS.finish();
    }
}
