/** What can be seen of a vend by calls that change nothing, as one text: two vends that were told the same answer the same. */
final class Seen {
    private final CoalVend vend;
    private final StringBuilder text = new StringBuilder();

    private Seen(CoalVend vend) {
        this.vend = vend;
    }

    static String of(CoalVend vend) {
        Seen seen = new Seen(vend);
        seen.counts();
        seen.owners();
        seen.ships();
        return seen.text.toString();
    }

    private void add(int answer) {
        text.append(' ').append(answer);
    }

    private void counts() {
        for (int what = 0; what <= 16; what++) {
            add(vend.count(what));
        }
        add(vend.price(0));
        add(vend.price(4));
        add(vend.named(0));
        text.append('\n');
    }

    private void owners() {
        for (int owner = 0; owner < vend.count(1); owner++) {
            for (int what = 0; what <= 9; what++) {
                add(vend.look(owner, what));
            }
            int over = vend.count(0) / 30;
            if (over > 0) {
                add(vend.month(owner, over - 1, 0));
                add(vend.month(owner, over - 1, 1));
                add(vend.known(owner, over - 1, vend.count(0), 0));
                add(vend.known(owner, over - 1, vend.count(0), 1));
            }
            text.append('\n');
        }
    }

    private void ships() {
        for (int ship = 0; ship < vend.count(2); ship++) {
            for (int what = 0; what <= 3; what++) {
                add(vend.lies(ship, what));
            }
            for (int i = 0; i < vend.lies(ship, 1); i++) {
                add(vend.load(ship, i));
            }
            text.append('\n');
        }
    }
}
