/** The sentences of part 5 (WHAT IF, TEMPTED, THE SLIDE, TRIED, THE BEST, FORETOLD) that name a boundary case, in the document's order. */
public final class WhatIfEdgesTest {
    private static final Checks CHECKS = new Checks();
    /** THE CITY wants nothing and has a BASE of 999: a LOAD of quality 4 is worth 199 each whatever there is. */
    private static final int WORTH = 8 * 199;

    private WhatIfEdgesTest() {
    }

    /** Owners of quality 4 that dig 99, under a pact that holds from day 1 on. */
    private static CoalVend steady(int owners, String pact, int... rooms) {
        CoalVend vend = new CoalVend();
        for (int i = 0; i < owners; i++) {
            vend.owner(4, 1, 99, 0);
        }
        for (int room : rooms) {
            vend.ship(room, 0);
        }
        vend.keels(6);
        vend.city(0, 0, 999);
        CHECKS.due("pact " + pact, 0, Checks.pact(vend, pact));
        return vend;
    }

    private static void daysTo720() {
        CHECKS.sentence("WHAT IF: all is run for n DAYS (0 to 60; as many as there are up to DAY 720)");
        CoalVend vend = steady(1, "", 8);
        vend.winds(1, 5);
        CHECKS.due("0 DAYS", 0, vend.whatIf(0, 0, 0));
        CHECKS.due("3 DAYS", 0, vend.whatIf(0, 0, 3));
        CHECKS.due("4 DAYS", WORTH, vend.whatIf(0, 0, 4));
        vend.days(5);
        CHECKS.due("0 DAYS: no more than there is", 0, vend.whatIf(0, 0, 0));
        CHECKS.due("the WINDS told end on day 5", 0, vend.whatIf(0, 0, 60));
        CoalVend late = steady(1, "", 8, 8);
        for (int i = 0; i < 11; i++) {
            late.winds(0, 60);
            late.days(60);
        }
        late.winds(0, 56);
        late.days(56);
        late.winds(1, 4);
        CHECKS.due("NOW is 716", 716, late.count(0));
        CHECKS.due("3 DAYS", 0, late.whatIf(0, 0, 3));
        CHECKS.due("4 DAYS, to 720", 2 * WORTH, late.whatIf(0, 0, 4));
        CHECKS.due("5 DAYS would end on 721", 2 * WORTH, late.whatIf(0, 0, 5));
        CHECKS.due("60 DAYS", 2 * WORTH, late.whatIf(0, 0, 60));
        late.days(4);
        CHECKS.due("on 720 no day is left", 0, late.whatIf(0, 0, 60));
        CHECKS.due("TEMPTED by none", 0, late.tempted(0, 0, 60));
        CHECKS.due("THE SLIDE by none", 0, late.slide(30, 1));
    }

    /** On day 27 ships are at the city and on their ways, and a pact and a law that were read are still to come. */
    private static CoalVend lively() {
        CoalVend vend = new CoalVend();
        vend.owner(3, 10, 40, 3);
        vend.owner(4, 5, 30, 2);
        vend.owner(0, 7, 50, 1);
        vend.ship(24, 0);
        vend.ship(40, 4);
        vend.ship(16, 3);
        vend.rebate(0, 11);
        vend.breaker(1, true);
        vend.city(200, 12, 90);
        for (int i = 0; i < 8; i++) {
            vend.winds(1, 6);
            vend.winds(2, 5);
        }
        Checks.law(vend, "duty 5;");
        Checks.pact(vend, "issue 100; weight might; rests quality;");
        vend.days(27);
        CHECKS.due("pact", 0, Checks.pact(vend, "issue 40 + hungry * 5 + ships; fall when 1; rests might;"
                + "weight might * 7 + vended * 3 + allotted * 2 + stock + digs + quality;"));
        CHECKS.due("law", 0, Checks.law(vend, "void fall; duty 9;"));
        return vend;
    }

    private static void aCopy() {
        CHECKS.sentence("in a copy");
        CoalVend vend = lively();
        String seen = Seen.of(vend);
        vend.whatIf(5, 0, 60);
        vend.tempted(2, 2, 60);
        vend.slide(30, 0);
        vend.tried(9999);
        vend.best(400);
        vend.foretold(true);
        vend.foretold(false);
        CHECKS.due("nothing is changed", true, seen.equals(Seen.of(vend)));
        CoalVend twin = lively();
        vend.days(60);
        twin.days(60);
        CHECKS.due("and it goes on as if nothing had been asked", true, Seen.of(vend).equals(Seen.of(twin)));
        CHECKS.sentence("all is run: with the WINDS told, a LAW read and a PACT in hand");
        vend = lively();
        twin = lively();
        int[] gains = {vend.look(0, 3), vend.look(1, 3), vend.look(2, 3)};
        int hungry = vend.foretold(false);
        for (int n = 1; n <= 60; n++) {
            int before = twin.count(10);
            twin.days(1);
            for (int owner = 0; owner < 3; owner++) {
                CHECKS.due("as it comes in " + n + " DAYS", twin.look(owner, 3) - gains[owner], vend.whatIf(2, owner, n));
            }
            if (twin.count(10) > before && hungry > 0) {
                CHECKS.due("HUNGRY as FORETOLD", twin.count(0), hungry);
                hungry = 0;
            }
        }
        CHECKS.due("it was HUNGRY", 0, hungry);
    }

    /** Three owners that differ in all things: ships go out and home all the time, and the pact alone limits what is sold. */
    private static CoalVend weighed(String fact) {
        CoalVend vend = new CoalVend();
        vend.owner(4, 10, 40, 1);
        vend.owner(3, 2, 20, 2);
        vend.owner(2, 5, 60, 3);
        for (int i = 0; i < 8; i++) {
            vend.ship(40, 0);
        }
        vend.keels(6);
        vend.city(0, 0, 999);
        for (int i = 0; i < 24; i++) {
            vend.winds(1 + i % 2, 4);
        }
        Checks.pact(vend, "issue 200; weight quality * quality;");
        vend.days(30);
        CHECKS.due("pact by " + fact, 0, Checks.pact(vend, "issue 199; weight " + fact + ";"));
        return vend;
    }

    private static void factsOfTheCopy() {
        CHECKS.sentence("all is run in a copy: the facts of an OWNER");
        for (String fact : new String[] {"might", "quality", "digs", "stock", "vended", "allotted * allotted"}) {
            CoalVend vend = weighed(fact);
            CoalVend twin = weighed(fact);
            int[] gains = {vend.look(0, 3), vend.look(1, 3), vend.look(2, 3)};
            twin.days(60);
            for (int owner = 0; owner < 3; owner++) {
                CHECKS.due("by " + fact, twin.look(owner, 3) - gains[owner], vend.whatIf(0, owner, 60));
            }
        }
    }

    private static void setsInPlace() {
        CHECKS.sentence("a set of BREAKERS in place of those there are");
        CoalVend vend = steady(2, "issue 0;", 16);
        vend.winds(1, 5);
        vend.breaker(0, true);
        CHECKS.due("nobody breaks", 0, vend.whatIf(0, 0, 5));
        CHECKS.due("0 breaks", 2 * WORTH, vend.whatIf(1, 0, 5));
        CHECKS.due("1 breaks in its place", 0, vend.whatIf(2, 0, 5));
        CHECKS.due("1 breaks in its place", 2 * WORTH, vend.whatIf(2, 1, 5));
        CHECKS.due("both break", WORTH, vend.whatIf(3, 0, 5));
        CHECKS.due("the BREAKER there is", 1, vend.look(0, 4));
    }

    private static void tempted() {
        CHECKS.sentence("TEMPTED is an OWNER whose GAIN is more if it breaks than if it does not");
        CoalVend vend = steady(2, "issue 16;", 24);
        vend.winds(1, 60);
        CHECKS.due("the ship is full on day 1 and sells on day 4", 1, vend.tempted(0, 0, 4));
        CHECKS.due("a day too few: the GAIN is the same", 0, vend.tempted(0, 0, 3));
        CHECKS.due("0 DAYS: the same", 0, vend.tempted(0, 0, 0));
        CHECKS.due("60 DAYS: still more", 1, vend.tempted(0, 0, 60));
        vend.city(0, 0, 1);
        vend.digs(0, 0);
        CHECKS.due("nothing to break with", 0, vend.tempted(0, 0, 60));
        CoalVend dear = new CoalVend();
        dear.owner(4, 1, 99, 99);
        dear.ship(8, 0);
        dear.city(0, 0, 1);
        Checks.pact(dear, "issue 0;");
        dear.winds(1, 5);
        CHECKS.due("a loss", 8 * (1 - 99), dear.whatIf(1, 0, 5));
        CHECKS.due("is no temptation", 0, dear.tempted(0, 0, 5));
        CoalVend rich = steady(1, "", 8);
        rich.winds(1, 5);
        rich.days(5);
        CHECKS.due("what it has is no more", 0, rich.tempted(0, 0, 5));
        CHECKS.sentence("others being as in a set");
        CoalVend narrow = steady(2, "issue 16;", 24);
        narrow.winds(1, 60);
        CHECKS.due("1, if 0 does not break", 1, narrow.tempted(0, 1, 5));
        CHECKS.due("1, if 0 does: it had the third load already", 0, narrow.tempted(1, 1, 5));
        CHECKS.due("its own bit is nothing", 1, narrow.tempted(2, 1, 5));
        CHECKS.due("its own bit is nothing", 0, narrow.tempted(3, 1, 5));
    }

    private static void slide(String what, CoalVend vend, int n, int set, int steps) {
        CHECKS.due(what + ": the set", set, vend.slide(n, 0));
        CHECKS.due(what + ": steps", steps, vend.slide(n, 1));
    }

    private static void slides() {
        CHECKS.sentence("the least OWNER that is none and is TEMPTED becomes one, and so on until there is none");
        CoalVend narrow = steady(2, "issue 16;", 24);
        narrow.winds(1, 60);
        slide("both are, but then 1 is no more", narrow, 5, 1, 1);
        slide("3 days are too few", narrow, 3, 0, 0);
        slide("4 days are enough", narrow, 4, 1, 1);
        slide("1 day", narrow, 1, 0, 0);
        CHECKS.sentence("from the BREAKERS there are");
        narrow.breaker(0, true);
        slide("1 is not TEMPTED", narrow, 4, 1, 0);
        narrow.breaker(1, true);
        slide("all are", narrow, 30, 3, 0);
        narrow.breaker(0, false);
        slide("0 has the first load only, 1 the others", narrow, 4, 3, 1);
        narrow.breaker(0, true);
        CHECKS.due("they are as they were", 2, narrow.count(12));
        CoalVend none = new CoalVend();
        slide("no OWNER", none, 30, 0, 0);
        CoalVend ten = steady(10, "issue 0;", 96, 96, 96, 96, 96);
        ten.winds(1, 60);
        slide("all ten", ten, 30, 1023, 10);
        ten.digs(4, 0);
        ten.digs(9, 0);
        slide("all but those that dig nothing", ten, 30, 1023 - 16 - 512, 8);
    }

    private static void tried() {
        CHECKS.sentence("TRIED ISSUE of I (0 to 9999): in place of its issue line, also if that is void");
        for (String pact : new String[] {"issue 8;", "", "issue 0; bar 5;"}) {
            CoalVend vend = steady(1, pact, 16);
            vend.winds(1, 30);
            CHECKS.due("0", 0, vend.tried(0));
            CHECKS.due("7", 0, vend.tried(7));
            CHECKS.due("8: a load waits till day 10", WORTH, vend.tried(8));
            CHECKS.due("16", 2 * WORTH, vend.tried(16));
            CHECKS.due("9999", 2 * WORTH, vend.tried(9999));
            Checks.law(vend, "void issue;");
            CHECKS.due("void: 8", WORTH, vend.tried(8));
        }
        CHECKS.sentence("WHAT IF for 30 DAYS");
        CoalVend last = steady(1, "", 8);
        last.winds(0, 27);
        last.winds(1, 4);
        CHECKS.due("it comes on day 31", 0, last.tried(8));
        last.days(1);
        CHECKS.due("the thirtieth from day 1 on", WORTH, last.tried(8));
        CHECKS.sentence("where the next MONTH begins within them");
        CoalVend vend = steady(1, "issue 16;", 16, 16);
        vend.days(1);
        vend.winds(0, 27);
        vend.winds(1, 60);
        CHECKS.due("of month 0 the ISSUE stays 16", 2 * WORTH, vend.tried(0));
        CHECKS.due("what leaves on day 31 does not come on it", 2 * WORTH, vend.tried(16));
        vend.days(3);
        CHECKS.due("the 30 DAYS from day 4 on end on day 34: none", 2 * WORTH, vend.tried(0));
        CHECKS.due("one in a ship that came long ago", 3 * WORTH, vend.tried(8));
        CHECKS.due("two", 4 * WORTH, vend.tried(16));
        vend = steady(1, "issue 0;", 8);
        for (int i = 0; i < 12; i++) {
            vend.winds(1, 60);
        }
        for (int i = 0; i < 11; i++) {
            vend.days(60);
        }
        vend.days(30);
        CHECKS.due("the last MONTH begins on day 691", WORTH, vend.tried(8));
        vend.days(1);
        CHECKS.due("and none behind it", 0, vend.tried(8));
        CHECKS.sentence("and a PACT holds then");
        vend = steady(1, "issue 16; fall when month;", 8, 8, 8);
        vend.days(5);
        vend.winds(0, 30);
        vend.winds(1, 60);
        CHECKS.due("it falls on day 31", 3 * WORTH, vend.tried(0));
        CHECKS.due("whatever the ISSUE", 3 * WORTH, vend.tried(9999));
        Checks.pact(vend, "issue 9999;");
        CHECKS.due("one in hand holds then", 2 * WORTH, vend.tried(0));
        CHECKS.due("one in hand holds then", 3 * WORTH, vend.tried(8));
        vend = steady(1, "fall when 1;", 8);
        vend.winds(1, 30);
        CHECKS.due("none holds", WORTH, vend.tried(0));
    }

    private static void sumOfGains() {
        CHECKS.sentence("BREAKERS as they are: the sum of all GAINS as they are then");
        CoalVend vend = steady(2, "issue 0; fine 1000;", 8);
        vend.breaker(1, true);
        vend.winds(0, 30);
        vend.winds(1, 4);
        vend.days(30);
        vend.report(0, 0, 0, 1);
        vend.report(1, 0, 0, 1);
        CHECKS.due("a fine", 1000, vend.fine(0, 0));
        CHECKS.due("and another", 1000, vend.fine(1, 0));
        CHECKS.due("the load of the BREAKER, less both fines", WORTH - 2000, vend.tried(0));
        vend.days(20);
        CHECKS.due("what was is in the sum", WORTH - 2000, vend.tried(0));
        for (int i = 0; i < 11; i++) {
            vend.days(60);
        }
        vend.days(10);
        CHECKS.due("on day 720 too", 720, vend.count(0));
        CHECKS.due("on day 720 too", WORTH - 2000, vend.tried(5));
        CHECKS.due("all are equal there: 0", 0, vend.best(400));
        CHECKS.due("no OWNER: no sum", 0, new CoalVend().tried(9999));
    }

    private static void best() {
        CHECKS.sentence("THE BEST of 0, s, 2 * s, .., 20 * s (s 1 to 400)");
        CoalVend vend = steady(1, "issue 5;", 96, 64);
        vend.winds(1, 8);
        CHECKS.due("160 fill both ships, 152 the first alone", 160, vend.best(8));
        CHECKS.due("140 fill the first as 98 do", 98, vend.best(7));
        CHECKS.due("20 do not fill it", 0, vend.best(1));
        CoalVend third = steady(1, "issue 168;", 96, 64, 8);
        third.winds(1, 8);
        CHECKS.due("168 fill the third ship too, but are 21 * 8", 160, third.best(8));
        CHECKS.due("the pact's own 168 are not among them", 0, third.best(4));
        CHECKS.sentence("the greatest sum, of equal ones the least ISSUE");
        CHECKS.due("400 are as good as 8000", 400, vend.best(400));
        CHECKS.due("162 are the first above 160", 162, vend.best(9));
        vend.winds(1, 52);
        CHECKS.due("with wind each load counts: 16 of 20", 16, vend.best(1));
        vend.owner(0, 1, 99, 99);
        vend.city(0, 0, 1);
        CHECKS.due("each load is a loss", 0, vend.best(400));
    }

    private static void foretold(String what, CoalVend vend, int calm, int frost) {
        CHECKS.due(what, calm, vend.foretold(false));
        CHECKS.due(what + " in frost", frost, vend.foretold(true));
    }

    private static void foretold() {
        CHECKS.sentence("FORETOLD: the first DAY behind NOW on which THE CITY will be HUNGRY");
        CoalVend vend = new CoalVend();
        foretold("on the first", vend, 1, 1);
        vend.days(1);
        foretold("not the day NOW, that was", vend, 2, 2);
        vend.city(60, 20, 1);
        foretold("behind three days' stock", vend, 5, 3);
        CHECKS.sentence("with the WINDS told");
        CoalVend cold = new CoalVend();
        cold.city(30, 20, 1);
        CHECKS.due("calm", 2, cold.foretold(false));
        cold.winds(3, 1);
        CHECKS.due("frost on day 1", 1, cold.foretold(false));
        CHECKS.sentence("in WHAT IF of 60 DAYS");
        vend.city(1199, 20, 1);
        foretold("on the sixtieth", vend, 61, 31);
        vend.city(1200, 20, 1);
        foretold("not on the sixtieth", vend, -1, 32);
        vend.city(2399, 20, 1);
        foretold("the sixtieth in frost", vend, -1, 61);
        vend.city(2400, 20, 1);
        foretold("nor in frost", vend, -1, -1);
        vend.city(0, 0, 1);
        foretold("no WANT", vend, -1, -1);
        CHECKS.sentence("(720 at most)");
        for (int i = 0; i < 11; i++) {
            vend.days(60);
        }
        vend.days(49);
        vend.city(199, 20, 1);
        CHECKS.due("NOW is 710", 710, vend.count(0));
        foretold("on day 720", vend, 720, 715);
        vend.city(200, 20, 1);
        foretold("it would be day 721", vend, -1, 716);
        vend.days(10);
        foretold("no day is left", vend, -1, -1);
        CHECKS.sentence("with the BREAKERS there are");
        CoalVend broken = steady(1, "issue 0;", 96);
        broken.city(80, 20, 1);
        broken.winds(1, 60);
        CHECKS.due("nobody breaks", 5, broken.foretold(false));
        broken.breaker(0, true);
        CHECKS.due("96 more come on day 5", 9, broken.foretold(false));
        CHECKS.due("an ISSUE is tried", 12 * 8 * 2, broken.tried(0));
        broken.breaker(0, false);
        broken.tried(9999);
        CHECKS.due("it is the pact's ISSUE again", 5, broken.foretold(false));
        CHECKS.due("it is the pact's ISSUE again", 0, broken.whatIf(0, 0, 60));
        broken.breaker(0, true);
        CHECKS.sentence("and so with frost on all DAYS");
        CHECKS.due("no ship sails, and twice the WANT", 3, broken.foretold(true));
    }

    public static void main(String[] args) {
        daysTo720();
        aCopy();
        factsOfTheCopy();
        setsInPlace();
        tempted();
        slides();
        tried();
        sumOfGains();
        best();
        foretold();
        CHECKS.finish();
    }
}
