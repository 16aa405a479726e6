import java.lang.management.ManagementFactory;

/** An object and its 512 calls make few objects: all calls of one run live in one room. */
public final class RoomTest {
    private static final Checks CHECKS = new Checks();
    private static final int CALLS = 512;
    // Some 7.3 million fields and elements may be made in all; a tenth of that, at four bytes each, is more than enough.
    private static final long BYTES = 730_000L * 4;

    private RoomTest() {
    }

    private static long bytesOf(Runnable run) {
        com.sun.management.ThreadMXBean threads = (com.sun.management.ThreadMXBean) ManagementFactory.getThreadMXBean();
        long before = threads.getCurrentThreadAllocatedBytes();
        run.run();
        return threads.getCurrentThreadAllocatedBytes() - before;
    }

    private static void small(String what, Runnable run) {
        bytesOf(run); // what is loaded at the first time is not the run's
        long bytes = bytesOf(run);
        CHECKS.due(what + " made " + bytes + " bytes", true, bytes < BYTES);
    }

    private static CoalVend fullVend() {
        CoalVend vend = new CoalVend();
        for (int i = 0; i < 10; i++) {
            vend.owner(4, 1 + i, 99, 0);
        }
        for (int i = 0; i < 8; i++) {
            vend.ship(96, 0);
        }
        vend.keels(6);
        vend.winds(1, 60);
        Checks.pact(vend, "issue 100; bar 0; fine over; fall when 9 < breakers;");
        vend.days(31);
        return vend;
    }

    /** Eight fall lines on a tape as full as can be, again and again, are the most that texts can make. */
    private static void readTexts() {
        CoalVend vend = new CoalVend();
        StringBuilder text = new StringBuilder();
        for (int line = 0; line < 8; line++) {
            text.append("fall when 0").append("+0".repeat(55)).append(";");
        }
        for (int calls = 0; calls < CALLS; calls += text.length() / 24 + 2) {
            CHECKS.due("a long pact", 0, Checks.pact(vend, text.toString()));
        }
    }

    private static void askDearly(CoalVend vend, int call) {
        switch (call) {
            case 0:
                vend.slide(30, 0);
                break;
            case 1:
                vend.best(400);
                break;
            case 2:
                vend.whatIf(1023, 9, 60);
                break;
            case 3:
                vend.foretold(true);
                break;
            case 4:
                vend.sale(1 << vend.count(8) % 10, 9, 1);
                break;
            case 5:
                vend.named(0);
                break;
            case 6:
                vend.report(0, 0, 0, 20);
                break;
            case 7:
                vend.known(0, 0, 31, 0);
                break;
            default:
                vend.law();
        }
    }

    private static void askAll() {
        CoalVend vend = fullVend();
        for (int i = 0; i < CALLS; i++) {
            askDearly(vend, i % 9);
        }
    }

    private static void readNothing() {
        CoalVend vend = new CoalVend();
        for (int i = 0; i < CALLS; i++) {
            CHECKS.due("an empty pact", 0, vend.pact());
        }
    }

    public static void main(String[] args) {
        small("a new object", CoalVend::new);
        small("512 dear calls", RoomTest::askAll);
        small("512 empty pacts", RoomTest::readNothing);
        small("512 calls for long pacts", RoomTest::readTexts);
        CHECKS.finish();
    }
}
