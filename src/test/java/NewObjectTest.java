/** Promise 1: what a new object answers. */
public final class NewObjectTest {
    private NewObjectTest() {
    }

    public static void main(String[] args) {
        Checks checks = new Checks();
        CoalVend vend = new CoalVend();
        int[] want = {0, 0, 0, 2, 0, 0, -1, 0, 0, 0, 0, 0, 0, 0, 0, 0, 0};
        for (int what = 0; what < want.length; what++) {
            checks.due("count(" + what + ")", want[what], vend.count(what));
        }
        checks.due("NONE", -1, CoalVend.NONE);
        checks.due("price(0)", 200, vend.price(0));
        checks.due("lies(0, 0)", -1, vend.lies(0, 0));
        checks.due("load(0, 0)", -1, vend.load(0, 0));
        checks.due("month(0, 0, 0)", -1, vend.month(0, 0, 0));
        checks.throwsNoSuchElement("look(0, 0)", () -> vend.look(0, 0));
        checks.finish();
    }
}
