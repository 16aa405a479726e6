/** The sentences of part 3 that tell how a TEXT is read and what is at fault at the borders, in the document's order: a test for each. */
public final class TextEdgesTest {
    private static final Checks CHECKS = new Checks();
    private static final int NOT_THERE = 1;
    private static final int TOLD = 3;
    private static final int NUMBER = 4;
    private static final int TOO_MANY = 5;

    private TextEdgesTest() {
    }

    private static void right(String text) {
        CHECKS.due(text, 0, Checks.pact(new CoalVend(), text));
    }

    private static void wrong(String text, int kind, int place) {
        CHECKS.due(text, kind + 16 * place, Checks.pact(new CoalVend(), text));
    }

    private static void rightLaw(String text) {
        CHECKS.due("law " + text, 0, Checks.law(new CoalVend(), text));
    }

    private static void wrongLaw(String text, int kind, int place) {
        CHECKS.due("law " + text, kind + 16 * place, Checks.law(new CoalVend(), text));
    }

    private static CoalVend blanks(int n) {
        CoalVend vend = new CoalVend();
        Checks.feed(vend, " ".repeat(n));
        CHECKS.due("blanks", n, vend.count(13));
        return vend;
    }

    private static void tapeIsFull() {
        CHECKS.sentence("The TAPE has at most 1,000 signs; what is beyond 1,000 is left out: how many there are");
        CoalVend vend = blanks(995);
        CHECKS.due("five more", 1000, vend.feed(0x626172353bL, 0, 0));
        CHECKS.due("full", 1000, vend.feed(-1, 0x3b3b3b3b3b3b3b3bL, 0x3b));
        CHECKS.due("bar5; and nothing behind it", 0, vend.pact());
        vend = blanks(996);
        CHECKS.due("only four more", 1000, vend.feed(0x626172353bL, 0, 0));
        CHECKS.due("the semicolon was left out", 1 + 16 * 1000, vend.pact());
        vend = blanks(990);
        CHECKS.due("ten of these 24", 1000, vend.feed(0x6475747931303b20L, 0x203b3b3b3b3b3b3bL, 0x3b3b3b3b3b3b3b3bL));
        CHECKS.due("duty10; and two blanks, then a semicolon", 1 + 16 * 999, vend.law());
        CHECKS.sentence("of each the highest byte first");
        vend = new CoalVend();
        CHECKS.due("24 signs at most", 24, vend.feed(0x6261722020202020L, 0x2020202020202020L, 0x202020202035303bL));
        CHECKS.due("bar .. 50;", 0, vend.pact());
    }

    private static void tapeSigns() {
        CHECKS.sentence("others than 10 and 32 .. 126 are left out");
        for (int sign = 0; sign < 256; sign++) {
            CoalVend vend = new CoalVend();
            boolean kept = sign == 10 || sign >= 32 && sign <= 126;
            CHECKS.due("sign " + sign, kept ? 1 : 0, vend.feed(0, (long) sign << 56, 0));
        }
        CoalVend vend = new CoalVend();
        CHECKS.due("eight of 255 are no signs", 0, vend.feed(-1, -1, -1));
        CHECKS.due("some between others", 6, vend.feed(0x00620961ff72801fL, 0x357f3b0000000000L, 0x20));
        CHECKS.due("bar5; and a blank", 0, vend.pact());
    }

    private static void tapeIsTaken() {
        CHECKS.sentence("what reads it takes it: it is empty then");
        for (String text : new String[] {"", "bar 5;", "bar 51;", "duty 1;", "~"}) {
            CoalVend vend = new CoalVend();
            Checks.pact(vend, text);
            CHECKS.due("behind pact " + text, 0, vend.count(13));
            Checks.law(vend, text);
            CHECKS.due("behind law " + text, 0, vend.count(13));
            CHECKS.due("the next is read alone", 0, Checks.pact(vend, "issue 1;"));
        }
    }

    private static void tokens() {
        CHECKS.sentence("TOKENS, each as long as can be");
        wrong("issue notmight;", NOT_THERE, 6);
        wrong("issuemonth;", NOT_THERE, 0);
        wrong("issue might5;", NOT_THERE, 11);
        wrong("issue 1 2;", NOT_THERE, 8);
        CHECKS.sentence("blanks (10, 32) between where one likes");
        right("\n fall\nwhen ( might ) ;\n\n");
        right("fall when(might);issue(1)+not(2);rests\nowner;bar5;");
        wrong("is sue 1;", NOT_THERE, 0);
        CHECKS.sentence("WORDS (letters a .. z, 8 at most); a longer one, at its first sign, is none");
        right("issue breakers;");
        right("issue allotted;");
        wrong("issue  breakersb;", NOT_THERE, 7);
        wrong("abcdefghijklmnopqrstuvwxyz", NOT_THERE, 0);
        wrong("issue zz;", NOT_THERE, 6);
        wrong("issuea 1;", NOT_THERE, 0);
        wrong("issuez 1;", NOT_THERE, 0);
        CHECKS.sentence("NUMBERS (1 to 4 digits); a longer one, at its first sign, is none");
        right("issue 0;");
        right("issue 0000;");
        right("issue 9999;");
        wrong("issue 00000;", NOT_THERE, 6);
        wrong("issue 10000;", NOT_THERE, 6);
        wrong("bar 00050;", NOT_THERE, 4);
        wrongLaw("duty 00050;", NOT_THERE, 5);
        wrong("issue 99999999999999999999;", NOT_THERE, 6);
        CHECKS.sentence("a letter may stand right behind");
        right("issue 1and 2or 3;");
        wrong("issue 1might;", NOT_THERE, 7);
        wrong("issue 12345and 2;", NOT_THERE, 6);
    }

    private static void wordsNearby() {
        CHECKS.sentence("Facts: might, quality, .., breakers");
        String[] facts = {"might", "quality", "digs", "stock", "vended", "allotted", "over", "price", "city", "want", "ships",
            "hungry", "month", "breakers"};
        for (String fact : facts) {
            right("issue " + fact + ";");
            wrong("issue " + fact + "j;", NOT_THERE, 6);
            wrong("issue " + fact.substring(1) + ";", NOT_THERE, 6);
            wrong("issue " + fact.substring(0, fact.length() - 1) + ";", NOT_THERE, 6);
            for (int i = 0; i < fact.length(); i++) {
                wrong("issue " + fact.substring(0, i) + "j" + fact.substring(i + 1) + ";", NOT_THERE, 6);
            }
        }
        CHECKS.sentence("weight E, issue E, fine E, fall when E, rests WORD, bar N");
        for (String line : new String[] {"weight 1;", "issue 1;", "fine 1;", "fall when 1;", "rests might;", "bar 1;"}) {
            right(line);
            wrong("j" + line.substring(1), NOT_THERE, 0);
            wrong(line.substring(1), NOT_THERE, 0);
        }
        CHECKS.sentence("void KIND, duty N");
        for (String line : new String[] {"void bar;", "duty 1;"}) {
            rightLaw(line);
            wrongLaw("j" + line.substring(1), NOT_THERE, 0);
            wrongLaw(line.substring(1), NOT_THERE, 0);
            wrong(line, NOT_THERE, 0);
        }
    }

    private static void otherSigns() {
        CHECKS.sentence("All else is none");
        for (char sign = 33; sign <= 126; sign++) {
            boolean none = "()<=+-*/;".indexOf(sign) < 0 && !Character.isDigit(sign) && !(sign >= 'a' && sign <= 'z');
            if (none) {
                wrong("issue 1" + sign + "2;", NOT_THERE, 7);
                wrong(sign + "issue 1;", NOT_THERE, 0);
                wrongLaw("duty" + sign + "1;", NOT_THERE, 4);
            }
        }
    }

    private static void lines() {
        CHECKS.sentence("PACT: any number of lines");
        right("");
        right(" \n");
        CoalVend vend = new CoalVend();
        vend.pact();
        CHECKS.due("an empty TAPE is a PACT: in hand", 1, vend.count(16));
        CHECKS.sentence("LAW: any number of lines");
        rightLaw("");
        rightLaw("void weight;void issue;void fine;void fall;void rests;void bar;duty 0;");
        CHECKS.sentence("each kind once");
        for (String line : new String[] {"weight 1;", "issue 1;", "fine 1;", "rests owner;", "bar 1;"}) {
            right(line);
            wrong(line + line, TOLD, line.length());
            wrong(line + " duty", NOT_THERE, line.length() + 1);
        }
        for (String kind : new String[] {"weight", "issue", "fine", "fall", "rests", "bar"}) {
            String line = "void " + kind + ";";
            rightLaw(line);
            wrongLaw(line + line, TOLD, line.length() + 5);
        }
        CHECKS.sentence("duty once");
        wrongLaw("duty 0;duty", TOLD, 7);
        wrongLaw("duty 0;void duty", NOT_THERE, 12);
        CHECKS.sentence("fall up to 8 times; 5 one too many: the word fall of the 9th such line");
        right("fall when 0;".repeat(8));
        wrong("fall when 0;".repeat(9), TOO_MANY, 96);
        wrong("fall when 0;".repeat(8) + "bar 1; fall", TOO_MANY, 103);
        wrong("fall when 0;".repeat(8) + "bar 51; fall when 0;", NUMBER, 100);
    }

    private static void numbersAsTold() {
        CHECKS.sentence("N of bar 0 to 50; 4 a NUMBER that is not as told");
        right("bar 0;");
        right("bar 50;");
        wrong("bar 51;", NUMBER, 4);
        wrong("bar 9999;", NUMBER, 4);
        wrong("bar 51", NUMBER, 4);
        wrong("bar -1;", NOT_THERE, 4);
        CHECKS.sentence("duty N, 0 to 99; 4 a NUMBER that is not as told");
        rightLaw("duty 0;");
        rightLaw("duty 99;");
        wrongLaw("duty 100;", NUMBER, 5);
        wrongLaw("duty 9999;", NUMBER, 5);
        wrongLaw("duty 0 - 1;", NOT_THERE, 7);
        CHECKS.sentence("WORD of rests: might, quality or owner");
        right("rests might;");
        right("rests quality;");
        right("rests owner;");
        for (String word : new String[] {"digs", "weight", "month", "void", "5", "x", ";", ""}) {
            wrong("rests " + word, NOT_THERE, 6);
        }
    }

    private static void firstFault() {
        CHECKS.sentence("FAULTS: of the first token from the left that is wrong");
        wrong("bar 51; bar 52;", NUMBER, 4);
        wrong("bar 5; bar 51;", TOLD, 7);
        wrong("issue 12345 + 67890;", NOT_THERE, 6);
        wrong("issue 1 < 2 < 12345; issue", NOT_THERE, 12);
        wrongLaw("void; duty 100;", NOT_THERE, 4);
        wrongLaw("void void; duty 100;", NOT_THERE, 5);
        wrongLaw("duty 100; void void;", NUMBER, 5);
        CHECKS.sentence("the end being one at the text's length");
        wrong("issue", NOT_THERE, 5);
        wrong("issue \n ", NOT_THERE, 8);
        wrong("issue 1", NOT_THERE, 7);
        wrong("issue 1 +", NOT_THERE, 9);
        wrong("issue (1", NOT_THERE, 8);
        wrong("fall", NOT_THERE, 4);
        wrong("fall when", NOT_THERE, 9);
        wrong("rests", NOT_THERE, 5);
        wrong("rests owner", NOT_THERE, 11);
        wrong("bar  ", NOT_THERE, 5);
        wrongLaw("void", NOT_THERE, 4);
        wrongLaw("void bar ", NOT_THERE, 9);
        wrongLaw("duty", NOT_THERE, 4);
        wrongLaw("duty 5\n", NOT_THERE, 7);
    }

    private static void grammar() {
        CHECKS.sentence("TEST: SUM [ < SUM or = SUM ]");
        right("issue 1 < 2;");
        right("issue 1 + 1 = 2 and 2 < 3;");
        right("issue (1 < 2) < (2 < 3);");
        wrong("issue 1 < 2 < 3;", NOT_THERE, 12);
        wrong("issue 1 = 2 + 3 < 3;", NOT_THERE, 16);
        wrong("issue (1 < 2 = 3);", NOT_THERE, 13);
        wrong("issue < 2;", NOT_THERE, 6);
        wrong("issue 1 <;", NOT_THERE, 9);
        CHECKS.sentence("PART: N, a fact's word, not PART, ( E )");
        wrong("issue;", NOT_THERE, 5);
        wrong("issue -5;", NOT_THERE, 6);
        wrong("issue 5 + -5;", NOT_THERE, 10);
        wrong("issue not;", NOT_THERE, 9);
        wrong("issue ();", NOT_THERE, 7);
        wrong("issue (1;", NOT_THERE, 8);
        wrong("issue 1);", NOT_THERE, 7);
        wrong("issue 1 not 2;", NOT_THERE, 8);
        wrong("issue 1 (2);", NOT_THERE, 8);
        for (String word : new String[] {"owner", "weight", "when", "void", "duty", "and", "or"}) {
            wrong("issue " + word + ";", NOT_THERE, 6);
        }
    }

    private static void within() {
        CHECKS.sentence("no PART lies within 5 of not and ( ); 5 one too many: not, or a PART, within 5 others");
        right("issue not not not not 1;");
        right("issue ((((1))));");
        right("issue not(not(might));");
        right("issue (not(not month));");
        wrong("issue not not not not not 1;", TOO_MANY, 26);
        wrong("issue (((((1)))));", TOO_MANY, 11);
        wrong("issue not(not(not might));", TOO_MANY, 18);
        wrong("issue (not(not(month)));", TOO_MANY, 15);
        wrong("issue not not not not not not", TOO_MANY, 26);
        wrong("issue ((((((", TOO_MANY, 11);
        wrong("issue ((((1 + (2))));", TOO_MANY, 15);
        CHECKS.sentence("what ended is not around a PART any more");
        right("issue not not not not 1 + not not not not 1;");
        right("issue ((((1)))) + ((((1)))) * not (((1)));");
        right("issue not (not (1)) + not not not not 1;");
        right("issue (((not 1 + not 2 + (3) + (4))));");
        wrong("issue (((not 1 + not (2))));", TOO_MANY, 22);
        CHECKS.sentence("of the first token that is wrong the least: 1 it can't stand there");
        wrong("issue (((((;", NOT_THERE, 11);
        wrong("issue (((((", NOT_THERE, 11);
        wrong("issue not not not not not and", NOT_THERE, 26);
        wrong("issue not not not not not 12345", NOT_THERE, 26);
        wrong("issue not not not not not owner", NOT_THERE, 26);
    }

    private static int issueOf(String expression) {
        CoalVend vend = new CoalVend();
        CHECKS.due("pact of " + expression, 0, Checks.pact(vend, "issue " + expression + ";"));
        vend.days(1);
        return vend.count(6);
    }

    private static void tells(String expression, int want) {
        CHECKS.due(expression, want, issueOf(expression));
    }

    private static void behindAFault() {
        CHECKS.sentence("what reads the TAPE takes it: nothing of a faulty text stays");
        for (String text : new String[] {"issue 2 * (3 + (not (4 +", "issue ((((1", "issue not not not not 1 1", "issue 7 - 8 * 9 9"}) {
            CoalVend vend = new CoalVend();
            CHECKS.due("a fault: " + text, false, Checks.pact(vend, text) == 0);
            CHECKS.due("four around a PART behind " + text, 0, Checks.pact(vend, "issue 1 + 2 * ((((3))));"));
            vend.days(1);
            CHECKS.due("1 + 2 * 3 behind " + text, 7, vend.count(6));
            Checks.pact(vend, text);
            CHECKS.due("one ) too many behind " + text, 1 + 16 * 7, Checks.pact(vend, "issue 1);"));
        }
    }

    private static void reckoning() {
        CHECKS.sentence("Numbers go round in 32 bits");
        tells("8192 * 512 * 512 < 0", 1);
        tells("0 < 8192 * 512 * 512 - 1", 1);
        tells("8192 * 512 * 512 - 1 + 1 < 0", 1);
        tells("8192 * 512 * 512 * 2", 0);
        tells("8192 * 512 * 512 - 1 + 8192 * 512 * 512 + 8", 7);
        tells("0 - 8192 * 512 * 512 < 0", 1);
        CHECKS.sentence("/ is cut towards 0");
        tells("7 / 2", 3);
        tells("4 + (0 - 7) / 2", 1);
        tells("4 + 7 / (0 - 2)", 1);
        tells("(0 - 7) / (0 - 2)", 3);
        tells("8192 * 512 * 512 / (0 - 1) < 0", 1);
        CHECKS.sentence("by 0 it is 0");
        tells("5 / 0", 0);
        tells("7 + (0 - 5) / (3 - 3)", 7);
        tells("0 / 0", 0);
        CHECKS.sentence("and, or, <, = tell 1 or 0");
        tells("2 and (0 - 3)", 1);
        tells("5 + (2 and 0)", 5);
        tells("5 + (0 and 2)", 5);
        tells("0 or (0 - 3)", 1);
        tells("7 or 0", 1);
        tells("5 + (0 or 0)", 5);
        tells("(0 - 1) < 0", 1);
        tells("5 + (5 < 5)", 5);
        tells("5 < 6", 1);
        tells("5 = 5", 1);
        tells("5 + (5 = 6)", 5);
        CHECKS.sentence("not 1 of 0, else 0");
        tells("not 0", 1);
        tells("5 + not 1", 5);
        tells("5 + not (0 - 1)", 5);
        tells("not 2 + 5", 5);
        tells("not (2) + 5", 5);
    }

    private static void order() {
        CHECKS.sentence("and, or go from the left alike");
        tells("1 or 1 and 0", 0);
        tells("0 and 0 or 1", 1);
        tells("1 or (1 and 0)", 1);
        CHECKS.sentence("* and / go from the left alike");
        tells("7 / 2 * 2", 6);
        tells("2 * 7 / 2", 7);
        tells("100 / 10 / 5", 2);
        CHECKS.sentence("SUM: TERM { + or - TERM }");
        tells("10 - 3 - 2", 5);
        tells("10 - 3 + 2", 9);
        tells("10 - 2 * 3", 4);
        CHECKS.sentence("TEST: SUM [ < SUM or = SUM ]");
        tells("1 + 1 < 3 and 5", 1);
        tells("3 = 1 + 2 or 0", 1);
        tells("not 1 < 1", 1);
    }

    public static void main(String[] args) {
        tapeIsFull();
        tapeSigns();
        tapeIsTaken();
        tokens();
        wordsNearby();
        otherSigns();
        lines();
        numbersAsTold();
        firstFault();
        grammar();
        within();
        behindAFault();
        reckoning();
        order();
        CHECKS.finish();
    }
}
