import java.util.NoSuchElementException;
import java.util.function.IntSupplier;

/** Counts what is as due and prints what is not. */
final class Checks {
    private int right;
    private int wrong;
    private String sentence = "";

    /** What follows tests this sentence of the document. */
    void sentence(String words) {
        sentence = "\"" + words + "\": ";
    }

    void due(String what, long want, long got) {
        if (got == want) {
            right++;
        } else {
            wrong++;
            System.out.println(sentence + what + " answered " + got + ", due is " + want);
        }
    }

    void due(String what, boolean want, boolean got) {
        due(what, want ? 1 : 0, got ? 1 : 0);
    }

    void throwsNoSuchElement(String what, IntSupplier call) {
        int thrown = 0;
        try {
            call.getAsInt();
        } catch (NoSuchElementException e) {
            thrown = 1;
        }
        due(what + " throws NoSuchElementException", 1, thrown);
    }

    /** Ends the program, with exit code 1 if anything was wrong. */
    void finish() {
        System.out.println(right + " passed, " + wrong + " failed");
        System.exit(wrong == 0 ? 0 : 1);
    }

    /** Feeds a text of any length. */
    static void feed(CoalVend vend, String text) {
        for (int at = 0; at < text.length(); at += 24) {
            vend.feed(eight(text, at), eight(text, at + 8), eight(text, at + 16));
        }
    }

    private static long eight(String text, int at) {
        long bytes = 0;
        for (int i = at; i < at + 8; i++) {
            bytes = bytes << 8 | (i < text.length() ? text.charAt(i) : 0);
        }
        return bytes;
    }

    static int pact(CoalVend vend, String text) {
        feed(vend, text);
        return vend.pact();
    }

    static int law(CoalVend vend, String text) {
        feed(vend, text);
        return vend.law();
    }
}
