/** Promises 10, 11 and 12: the tape, and each fault of a text. */
public final class FaultsTest {
    private static final Checks CHECKS = new Checks();

    private FaultsTest() {
    }

    private static void pact(String text, int kind, int place) {
        CHECKS.due("pact " + text, kind == 0 ? 0 : kind + 16 * place, Checks.pact(new CoalVend(), text));
    }

    private static void law(String text, int kind, int place) {
        CHECKS.due("law " + text, kind == 0 ? 0 : kind + 16 * place, Checks.law(new CoalVend(), text));
    }

    private static void tape() {
        CoalVend vend = new CoalVend();
        CHECKS.due("nothing", 0, vend.feed(0, 0, 0));
        CHECKS.due("9, 10, 31, 32, 126, 127, 128, 255", 3, vend.feed(0x090a1f207e7f80ffL, 0, 0));
        CHECKS.due("signs", 3, vend.count(13));
        CHECKS.due("~ at 2", 1 + 16 * 2, vend.pact());
        CHECKS.due("taken", 0, vend.count(13));
        CHECKS.due("highest byte first", 6, vend.feed(0x626172L, 0x2035000000000000L, 0x3bL));
        CHECKS.due("bar 5;", 0, vend.pact());
        CHECKS.due("in hand", 1, vend.count(16));
        for (int i = 1; i <= 41; i++) {
            CHECKS.due("blanks", 24 * i, vend.feed(0x2020202020202020L, 0x2020202020202020L, 0x2020202020202020L));
        }
        CHECKS.due("998", 998, vend.feed(0x2020202020202020L, 0x202020202020L, 0));
        CHECKS.due("two more", 1000, vend.feed(0x3b3b3b, 0, 0x3b));
        CHECKS.due("beyond 1000", 1000, vend.feed(0x3b, 0, 0));
        CHECKS.due("the first of the two", 1 + 16 * 998, vend.law());
        CHECKS.due("taken", 0, vend.count(13));
    }

    private static void lines() {
        pact("", 0, 0);
        pact(" \n ", 0, 0);
        pact("weight 1;issue 2;fine 3;fall when 4;rests owner;bar 0;", 0, 0);
        pact("bar 50;rests quality;fall when 0;fine 0;issue 0;weight 0;", 0, 0);
        pact("bar\n50\n;\n", 0, 0);
        pact("bar50;", 0, 0);
        pact("bar 0050;", 0, 0);
        pact("bar", 1, 3);
        pact("bar  ", 1, 5);
        pact("bar 5", 1, 5);
        pact("bar ;", 1, 4);
        pact("bar might;", 1, 4);
        pact("bar 51;", 4, 4);
        pact("bar 9999;", 4, 4);
        pact("bar 00050;", 1, 4);
        pact("bar 5 5;", 1, 6);
        pact("bar 5;;", 1, 6);
        pact("bar 5; bar 6;", 3, 7);
        pact("bar 5; bar", 3, 7);
        pact("rests;", 1, 5);
        pact("rests digs;", 1, 6);
        pact("rests owner owner;", 1, 12);
        pact("rests might; rests", 3, 13);
        pact("issue 1; issue", 3, 9);
        pact("fine 1; fine", 3, 8);
        pact("weight 1; weight", 3, 10);
        pact("fall 1;", 1, 5);
        pact("fall when;", 1, 9);
        pact("fall when 1;fall when 1;fall when 1;fall when 1;fall when 1;fall when 1;fall when 1;fall when 1;", 0, 0);
        pact("fall when 1;fall when 1;fall when 1;fall when 1;fall when 1;fall when 1;fall when 1;fall when 1;fall", 5, 96);
        pact("void bar;", 1, 0);
        pact("might;", 1, 0);
        pact("when;", 1, 0);
        pact("5;", 1, 0);
        pact("Bar 5;", 1, 0);
        pact(" bars 5;", 1, 1);
        pact("weightweight 5;", 1, 0);
        pact("barz 5;", 1, 0);
        pact("bar`5;", 1, 3);
        pact("bar{5;", 1, 3);
        pact("bar/5;", 1, 3);
        pact("bar:5;", 1, 3);
        pact("bar 5:", 1, 5);
        pact("bar 9;", 0, 0);
    }

    private static void expressions() {
        pact("issue 1 < 2 < 3;", 1, 12);
        pact("issue 1 = 2 < 3;", 1, 12);
        pact("issue 1 < 2 and 2 = 3 or 4 < 5;", 0, 0);
        pact("issue (1 < 2) < 3;", 0, 0);
        pact("issue (1 < 2 = 3);", 1, 13);
        pact("issue 1 + 2 < 3 * 4 = 5;", 1, 20);
        pact("issue -1;", 1, 6);
        pact("issue 1 - - 1;", 1, 10);
        pact("issue 1 +;", 1, 9);
        pact("issue 1 2;", 1, 8);
        pact("issue 1 might;", 1, 8);
        pact("issue might and;", 1, 15);
        pact("issue 5and3or 2;", 0, 0);
        pact("issue 12345;", 1, 6);
        pact("issue 1 + 12345;", 1, 10);
        pact("issue 9999;", 0, 0);
        pact("issue not 1;", 0, 0);
        pact("issue 1 not 1;", 1, 8);
        pact("issue not not;", 1, 13);
        pact("issue ();", 1, 7);
        pact("issue (1;", 1, 8);
        pact("issue (1", 1, 8);
        pact("issue 1);", 1, 7);
        pact("issue (1));", 1, 9);
        pact("issue (1)(2);", 1, 9);
        pact("issue owner;", 1, 6);
        pact("issue when;", 1, 6);
        pact("issue breakerss;", 1, 6);
        pact("issue breakers;", 0, 0);
        pact("issue might+quality+digs+stock+vended+allotted+over+price+city+want+ships+hungry+month+breakers;", 0, 0);
        pact("issue 1 & 2;", 1, 8);
        pact("issue 1 >2;", 1, 8);
    }

    private static void depth() {
        pact("issue ((((1))));", 0, 0);
        pact("issue (((((1)))));", 5, 11);
        pact("issue ((((((1))))));", 5, 11);
        pact("issue not not not not 1;", 0, 0);
        pact("issue not(not(1));", 0, 0);
        pact("issue not(not(not 1));", 5, 18);
        pact("issue not(not(not might", 5, 18);
        pact("issue not not not not not not 1;", 5, 26);
        pact("issue ((((not 1))));", 5, 14);
        pact("issue ((((not;", 1, 13);
        pact("issue (((((;", 1, 11);
        pact("issue ((((( and", 1, 12);
        pact("issue (((((", 1, 11);
        pact("issue ((((1)*(1)))) + not not not not 1 + ((((2))));", 0, 0);
        pact("issue not not not not 1 * not not not not 1;", 0, 0);
    }

    private static void laws() {
        law("", 0, 0);
        law("void weight;void issue;void fine;void fall;void rests;void bar;duty 99;", 0, 0);
        law("duty 0;", 0, 0);
        law("duty 100;", 4, 5);
        law("duty 10000;", 1, 5);
        law("duty;", 1, 4);
        law("duty 1", 1, 6);
        law("duty 0; duty 0;", 3, 8);
        law("void;", 1, 4);
        law("void", 1, 4);
        law("void might;", 1, 5);
        law("void 5;", 1, 5);
        law("void duty;", 1, 5);
        law("void bar; void bar;", 3, 15);
        law("void bar fine;", 1, 9);
        law("void fall; void fall", 3, 16);
        law("bar 5;", 1, 0);
        law("weight 1;", 1, 0);
    }

    private static void faultyPactLeavesTheOneInHand() {
        CoalVend vend = new CoalVend();
        CHECKS.due("pact", 0, Checks.pact(vend, "issue 7;"));
        CHECKS.due("pact", 1 + 16 * 7, Checks.pact(vend, "issue 8"));
        vend.days(1);
        CHECKS.due("issue", 7, vend.count(6));
        CHECKS.due("pact", 0, Checks.pact(vend, "issue 9;"));
        CHECKS.due("pact", 0, Checks.pact(vend, "issue 10;"));
        vend.days(29);
        CHECKS.due("issue", 7, vend.count(6));
        vend.days(1);
        CHECKS.due("issue", 10, vend.count(6));
        CHECKS.due("in hand", 0, vend.count(16));
    }

    public static void main(String[] args) {
        tape();
        lines();
        expressions();
        depth();
        laws();
        faultyPactLeavesTheOneInHand();
        CHECKS.finish();
    }
}
