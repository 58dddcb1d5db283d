/**
 * All that can be learnt of an object by its calls. Asking it uses the object up: what it keeps is taken out at last.
 * These are some 400 calls at most, so that an object stays below its 512.
 */
final class Whole {
    private static final int CELLS = 12, SIX = 6;

    private final DarkLeavers x;
    private final StringBuilder all = new StringBuilder();

    private Whole(DarkLeavers x) {
        this.x = x;
    }

    static String of(DarkLeavers x) {
        Whole whole = new Whole(x);
        whole.standing();
        whole.whatCanBe();
        whole.leavingsUndone();
        whole.image(0);
        whole.image(1);
        whole.text();
        return whole.all.toString();
    }

    /** The first piece in which two differ, for a message. */
    static String difference(String one, String other) {
        String[] ones = one.split(" ");
        String[] others = other.split(" ");
        for (int i = 0; i < Math.min(ones.length, others.length); i++) {
            if (!ones[i].equals(others[i])) {
                return ones[i] + " against " + others[i];
            }
        }
        return ones.length + " pieces against " + others.length;
    }

    private long note(String call, long answer) {
        all.append(call).append('=').append(answer).append(' ');
        return answer;
    }

    private void standing() {
        for (int what = 0; what < 8; what++) {
            note("count" + what, x.count(what));
        }
        note("trace", x.trace());
        for (int c = 0; c < CELLS; c++) {
            for (int what = 0; what < 3; what++) {
                note("cell" + c + "," + what, x.cell(c, what));
            }
        }
        for (int i = 0; i < SIX; i++) {
            for (int what = 0; what < 4; what++) {
                note("lamp" + i + "," + what, x.lamp(i, what));
                note("person" + i + "," + what, x.person(i, what));
            }
            note("can" + i, x.can(i));
        }
    }

    private void whatCanBe() {
        note("most", x.most());
        note("rows", x.rows());
        note("bar", x.bar());
        note("grief", x.grief());
        note("game", x.game());
        for (int k = 0; k <= SIX; k++) {
            note("order" + k, x.order(k, 0));
            note("orderLamp" + k, x.order(k, 1));
        }
        for (int c = 0; c < CELLS; c++) {
            note("worth" + c, x.worth(c, 1));
        }
        seen();
    }

    private void seen() {
        note("seen", x.count(6));
        note("fits", x.fits());
        for (int l = 0; l < SIX; l++) {
            note("who" + l, x.who(l));
        }
    }

    private void leavingsUndone() {
        for (int i = 0; i <= SIX; i++) {
            for (int n = 0; n < SIX; n++) {
                note("place" + n, x.person(n, 3));
                note("lit" + n, x.lamp(n, 2));
            }
            if (note("undo", x.undo()) < 0) {
                break;
            }
        }
    }

    private void image(int image) {
        note("back" + image, x.back(image));
        seen();
        leavingsUndone();
    }

    /** A text that lacks its last sign is ended, to learn what stood in it. */
    private void text() {
        if (note("hall", x.hall()) < 0) {
            note("type", x.type(';', 1));
            note("hallEnded", x.hall());
            note("clear", x.clear());
        }
        for (int what = 0; what < 8; what++) {
            note("countThen" + what, x.count(what));
        }
        for (int i = 0; i < SIX; i++) {
            note("lampThen" + i, x.lamp(i, 3));
            note("personThen" + i, x.person(i, 1));
        }
    }
}
