import java.util.Random;

/** Texts by chance: pacts and laws by the grammar, and some that are spoiled. */
final class RandomTexts {
    private static final String[] FACTS = {"might", "quality", "digs", "stock", "vended", "allotted", "over", "price", "city",
        "want", "ships", "hungry", "month", "breakers"};
    private static final String[] KINDS = {"weight", "issue", "fine", "fall", "rests", "bar"};
    private static final String[] SPOILS = {"x", ";", "(", ")", "<", "not ", " and ", " or ", "12345", "1", " ", "\n", "A", "~",
        "=", "fall when 0;", "duty 1;", "void bar;", "weight 1;", "month", "breakerss", "-", "bar 51;", "rests owner;",
        "not not not not not ", "((((", "))))", "void fall;", "fine 1;", "fall when 0;fall when 0;fall when 0;fall when 0;", "issue 9;"};
    private final Random random;

    RandomTexts(Random random) {
        this.random = random;
    }

    private <T> T one(T[] of) {
        return of[random.nextInt(of.length)];
    }

    private String gap() {
        return random.nextInt(12) == 0 ? "\n" : " ";
    }

    private String part(int within) {
        int kind = random.nextInt(within >= 4 && random.nextInt(40) > 0 ? 7 : 10);
        if (kind < 3) {
            return "" + (random.nextInt(3) == 0 ? random.nextInt(10000) : random.nextInt(12));
        }
        if (kind < 7) {
            return one(FACTS);
        }
        return kind == 7 ? "not " + part(within + 1) : "(" + expression(within + 1) + ")";
    }

    private String term(int within) {
        StringBuilder text = new StringBuilder(part(within));
        while (random.nextInt(4) == 0) {
            text.append(random.nextBoolean() ? "*" : " / ").append(part(within));
        }
        return text.toString();
    }

    private String sum(int within) {
        StringBuilder text = new StringBuilder(term(within));
        while (random.nextInt(4) == 0) {
            text.append(random.nextBoolean() ? "+" : " - ").append(term(within));
        }
        return text.toString();
    }

    private String test(int within) {
        String text = sum(within);
        return random.nextInt(3) > 0 ? text : text + (random.nextBoolean() ? "<" : " = ") + sum(within);
    }

    String expression(int within) {
        StringBuilder text = new StringBuilder(test(within));
        while (random.nextInt(6) == 0) {
            text.append(random.nextBoolean() ? " and " : " or ").append(test(within));
        }
        return text.toString();
    }

    private String issue() {
        return random.nextInt(3) == 0 ? expression(0) : random.nextInt(900) + " + month * " + random.nextInt(60) + " - hungry";
    }

    private String line(String kind) {
        switch (kind) {
            case "fall":
                return "fall when " + (random.nextInt(3) == 0 ? expression(0) : random.nextInt(40) + " < " + one(FACTS));
            case "rests":
                return "rests " + one(new String[] {"might", "quality", "owner"});
            case "bar":
                return "bar " + random.nextInt(random.nextInt(20) == 0 ? 60 : 51);
            case "issue":
                return "issue " + issue();
            case "fine":
                return "fine " + (random.nextBoolean() ? expression(0) : "over * " + random.nextInt(9) + " + vended - allotted");
            default:
                return kind + gap() + expression(0);
        }
    }

    String pact() {
        StringBuilder text = new StringBuilder();
        for (String kind : KINDS) {
            int times = kind.equals("fall") ? Math.max(0, random.nextInt(random.nextInt(15) == 0 ? 11 : 6) - 3) : random.nextInt(3) > 0 ? 1 : 0;
            for (int i = 0; i < times; i++) {
                text.insert(random.nextInt(4) == 0 ? 0 : text.length(), line(kind) + gap() + ";" + gap());
            }
        }
        if (random.nextInt(8) == 0) {
            text.append(line(one(KINDS))).append(";\n");
        }
        return spoiled(text);
    }

    String law() {
        StringBuilder text = new StringBuilder();
        for (String kind : KINDS) {
            if (random.nextInt(4) == 0) {
                text.append("void").append(gap()).append(kind).append(";");
            }
        }
        if (random.nextBoolean()) {
            text.append("duty ").append(random.nextInt(random.nextInt(20) == 0 ? 120 : 100)).append(" ;");
        }
        if (random.nextInt(8) == 0) {
            text.append(random.nextBoolean() ? "duty 7;" : "void " + one(KINDS) + ";");
        }
        return spoiled(text);
    }

    private String spoiled(StringBuilder text) {
        if (random.nextInt(4) == 0) {
            for (int i = random.nextInt(3); i >= 0; i--) {
                int at = random.nextInt(text.length() + 1);
                if (random.nextBoolean()) {
                    text.insert(at, one(SPOILS));
                } else {
                    text.delete(at, Math.min(text.length(), at + 1 + random.nextInt(8)));
                }
            }
        }
        return text.toString();
    }
}
