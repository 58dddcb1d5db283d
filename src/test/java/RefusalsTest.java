/**
 * "Refused, and nothing changes, the first of these: BAD (a number is not as told, or there is no such thing),
 * STATE (as told), FULL." Each refused call is made on an object of which there is a twin without it: behind it both
 * must answer all calls alike.
 */
public final class RefusalsTest {
    private static final int BAD = -1, STATE = -2, FULL = -3, NOT_SO_MANY = -5, NO = -1000000;
    private static final int MIN = Integer.MIN_VALUE, MAX = Integer.MAX_VALUE;
    private static final Due due = new Due("RefusalsTest");

    private interface Call {
        long on(DarkLeavers x);
    }

    public static void main(String[] args) {
        statesAreAsTold();
        for (States state : States.values()) {
            typeBad(state);
            cellBad(state);
            lampBad(state);
            personBad(state);
            canBad(state);
            leavesBad(state);
            orderBad(state);
            worthBad(state);
            sawBad(state);
            whoBad(state);
            markBad(state);
            imagesBad(state);
            countBad(state);
            askingChangesNothing(state);
        }
        typeFull();
        sawFull();
        canState();
        leavesState();
        undoState();
        backState();
        badAheadOfState();
        badAheadOfFull();
        badAheadOfNotSoMany();
        due.end();
    }

    private static void answers(String what, States state, long answer, Call call) {
        DarkLeavers x = state.make();
        due.is(what + " in " + state, call.on(x), answer);
        unchanged(what + " in " + state, x, state.make());
    }

    private static void unchanged(String what, DarkLeavers x, DarkLeavers twin) {
        String one = Whole.of(x);
        String other = Whole.of(twin);
        due.holds(what + " changed something: " + Whole.difference(one, other), one.equals(other));
    }

    /** Just outside 0 .. count - 1 on both sides, and far off, where a narrower number would fit. */
    private static int[] outside(int count) {
        return new int[] {-1, count, -2, count + 1, MIN, MAX, 256, 1 << 16, -256, MIN + 1, 32, 64};
    }

    private static void statesAreAsTold() {
        int[][] counts = {{12, 0, 0, 0, 0, 0, 0, 0}, {12, 6, 6, 6, 0, 1, 0, 0}, {12, 6, 6, 4, 2, 1, 3, 10},
            {12, 6, 6, 4, 2, 1, 3, 300}, {12, 6, 6, 5, 1, 0, 8, 0}, {12, 6, 6, 0, 6, 0, 0, 0}};
        for (States state : States.values()) {
            for (int what = 0; what < 8; what++) {
                due.is(state + " count " + what, state.make().count(what), counts[state.ordinal()][what]);
            }
        }
        DarkLeavers x = States.BUSY.make();
        due.is("BUSY 2 has left last", x.person(2, 3), 1);
        due.is("BUSY 0 can", x.can(0), 1);
        due.is("BUSY 5 can't", x.can(5), 0);
        due.is("BUSY lamp 5 is out", x.lamp(5, 2), 0);
        due.is("BUSY lamp 0 is lit", x.lamp(0, 2), 1);
        due.is("BUSY trace", x.trace(), 10101);
        due.holds("BUSY what was seen fits some rows", x.fits() > 0 && x.fits() < States.TOLD.make().fits());
        due.holds("TOLD all can leave", States.TOLD.make().rows() > 0);
    }

    // "The lowest n (1 .. 8) bytes of v"
    private static void typeBad(States state) {
        for (int n : new int[] {0, 9, -1, 10, MIN, MAX, 256 + 1, (1 << 16) + 8}) {
            answers("type n " + n, state, BAD, x -> x.type(0x6C616D7020302030L, n));
        }
    }

    // "Of a CELL: 0 .. 1 .. 2 .. BAD."
    private static void cellBad(States state) {
        for (int c : outside(12)) {
            answers("cell " + c, state, BAD, x -> x.cell(c, 0));
        }
        for (int what : outside(3)) {
            answers("cell what " + what, state, BAD, x -> x.cell(0, what));
        }
    }

    // "Of a LAMP: 0 .. 3 .. BAD."
    private static void lampBad(States state) {
        for (int l : outside(state.make().count(1))) {
            for (int what = 0; what < 4; what++) {
                int asked = what;
                answers("lamp " + l, state, BAD, x -> x.lamp(l, asked));
            }
        }
        for (int what : outside(4)) {
            answers("lamp what " + what, state, BAD, x -> x.lamp(0, what));
        }
    }

    // "Of one: 0 .. 3 .. BAD."
    private static void personBad(States state) {
        for (int p : outside(state.make().count(2))) {
            for (int what = 0; what < 4; what++) {
                int asked = what;
                answers("person " + p, state, BAD, x -> x.person(p, asked));
            }
        }
        for (int what : outside(4)) {
            answers("person what " + what, state, BAD, x -> x.person(0, what));
        }
    }

    // "Whether one CAN LEAVE: 1, 0. BAD"
    private static void canBad(States state) {
        for (int p : outside(state.make().count(2))) {
            answers("can " + p, state, BAD, x -> x.can(p));
        }
    }

    // "One LEAVES, and puts out a LAMP .. BAD"
    private static void leavesBad(States state) {
        for (int p : outside(state.make().count(2))) {
            answers("leaves " + p, state, BAD, x -> x.leaves(p, 0));
        }
        for (int l : outside(state.make().count(1))) {
            answers("leaves by " + l, state, BAD, x -> x.leaves(0, l));
        }
    }

    // "BAD (k below 0)."
    private static void orderBad(States state) {
        for (int k : new int[] {-1, -2, MIN}) {
            answers("order " + k, state, BAD, x -> x.order(k, 0));
            answers("order lamp " + k, state, BAD, x -> x.order(k, 1));
        }
        for (int what : outside(2)) {
            answers("order what " + what, state, BAD, x -> x.order(0, what));
        }
    }

    // "WORTH. BAD (a WALL, too; REACH 0 .. 9)."
    private static void worthBad(States state) {
        for (int c : outside(12)) {
            answers("worth " + c, state, BAD, x -> x.worth(c, 0));
        }
        for (int reach : outside(10)) {
            answers("worth reach " + reach, state, BAD, x -> x.worth(0, reach));
        }
        if (state.make().cell(States.WALL, 0) == 1) {
            answers("worth of a wall", state, BAD, x -> x.worth(States.WALL, 0));
            answers("worth of a wall", state, BAD, x -> x.worth(States.WALL, 9));
        }
    }

    // "After so many (0 .. 6) a CELL was LIGHT (1), or not (0) .. BAD (a WALL, too)"
    private static void sawBad(States state) {
        for (int after : outside(7)) {
            answers("saw after " + after, state, BAD, x -> x.saw(after, 0, 0));
        }
        for (int c : outside(12)) {
            answers("saw cell " + c, state, BAD, x -> x.saw(0, c, 1));
        }
        for (int light : outside(2)) {
            answers("saw light " + light, state, BAD, x -> x.saw(6, 11, light));
        }
        if (state.make().cell(States.WALL, 0) == 1) {
            answers("saw a wall light", state, BAD, x -> x.saw(0, States.WALL, 1));
            answers("saw a wall dark", state, BAD, x -> x.saw(0, States.WALL, 0));
        }
    }

    // "WHO, as bits. BAD."
    private static void whoBad(States state) {
        for (int l : outside(state.make().count(1))) {
            answers("who " + l, state, BAD, x -> x.who(l));
        }
    }

    // "MARK. NO: BAD." No mark comes to THE TRACE then: nothing changes.
    private static void markBad(States state) {
        for (int p : outside(state.make().count(2))) {
            for (int kind = 0; kind < 6; kind++) {
                int asked = kind;
                answers("mark " + kind + " of " + p, state, NO, x -> x.mark(asked, p));
            }
        }
        for (int kind : outside(6)) {
            answers("mark of kind " + kind, state, NO, x -> x.mark(kind, 0));
        }
    }

    // "IMAGES 0, 1"
    private static void imagesBad(States state) {
        for (int image : outside(2)) {
            answers("keep " + image, state, BAD, x -> x.keep(image));
            answers("back " + image, state, BAD, x -> x.back(image));
        }
    }

    // "0 CELLS .. 7 bytes of THE TEXT. BAD."
    private static void countBad(States state) {
        for (int what : outside(8)) {
            answers("count " + what, state, BAD, x -> x.count(what));
        }
    }

    // "(From NOW; nothing is changed.)", and of what only tells.
    private static void askingChangesNothing(States state) {
        Call[] calls = {x -> x.most(), x -> x.order(0, 0), x -> x.order(5, 1), x -> x.rows(), x -> x.bar(), x -> x.grief(),
            x -> x.game(), x -> x.worth(0, 9), x -> x.worth(11, 0), x -> x.fits(), x -> x.who(0), x -> x.can(0),
            x -> x.cell(0, 2), x -> x.lamp(0, 3), x -> x.person(0, 3), x -> x.count(7), x -> x.trace(),
            x -> x.order(MAX, 0)};
        for (int i = 0; i < calls.length; i++) {
            DarkLeavers x = state.make();
            long first = calls[i].on(x);
            due.is("asking again, call " + i + " in " + state, calls[i].on(x), first);
            unchanged("asking, call " + i + " in " + state, x, state.make());
        }
    }

    // "a text (300 bytes at most)": what does not fit is not taken, not even in part.
    private static void typeFull() {
        for (int n = 1; n <= 8; n++) {
            int bytes = n;
            answers("type " + n + " bytes", States.TEXT_FULL, FULL, x -> x.type(0x2020202020202020L, bytes));
            for (int room = 0; room <= 8; room++) {
                nearlyFull(n, room);
            }
        }
    }

    private static void nearlyFull(int n, int room) {
        String text = " ".repeat(300 - room);
        DarkLeavers x = Due.told(States.HALL);
        DarkLeavers twin = Due.told(States.HALL);
        Due.typeAll(x, text);
        Due.typeAll(twin, text);
        boolean fits = n <= room;
        due.is("type " + n + " with room for " + room, x.type(-1L, n), fits ? 300 - room + n : FULL);
        due.is("bytes then", x.count(7), fits ? 300 - room + n : 300 - room);
        if (!fits) {
            unchanged("type " + n + " with room for " + room, x, twin);
        }
    }

    // "SEEN (8 at most)"
    private static void sawFull() {
        for (int after = 0; after <= 6; after++) {
            int turn = after;
            answers("saw a ninth, light", States.SEEN_FULL, FULL, x -> x.saw(turn, 11, 1));
            answers("saw a ninth, dark", States.SEEN_FULL, FULL, x -> x.saw(turn, 0, 0));
        }
    }

    // "STATE: it has LEFT."
    private static void canState() {
        answers("can one who left", States.BUSY, STATE, x -> x.can(2));
        answers("can one who left first", States.BUSY, STATE, x -> x.can(3));
        for (int p = 0; p < 6; p++) {
            int one = p;
            answers("can " + p + " of all who left", States.ALL_LEFT, STATE, x -> x.can(one));
        }
    }

    // "STATE: it has LEFT, can't, or the LAMP is out."
    private static void leavesState() {
        answers("leaves who has left", States.BUSY, STATE, x -> x.leaves(2, 0));
        answers("leaves who has left, by the same lamp", States.BUSY, STATE, x -> x.leaves(2, 5));
        answers("leaves who can't", States.BUSY, STATE, x -> x.leaves(5, 0));
        answers("leaves by a lamp that is out", States.BUSY, STATE, x -> x.leaves(0, 3));
        answers("leaves by the lamp put out last", States.BUSY, STATE, x -> x.leaves(0, 5));
        answers("leaves who can't, by a lamp that is out", States.BUSY, STATE, x -> x.leaves(5, 3));
        for (int l = 0; l < 6; l++) {
            int lamp = l;
            answers("leaves from the dark by " + l, States.BUSY, STATE, x -> x.leaves(5, lamp));
            answers("leaves when all have", States.ALL_LEFT, STATE, x -> x.leaves(lamp, lamp));
        }
    }

    // "UNDONE: how many have LEFT. STATE: none."
    private static void undoState() {
        answers("undo in a new hall", States.NEW, STATE, x -> x.undo());
        answers("undo when none left", States.TOLD, STATE, x -> x.undo());
        DarkLeavers x = States.TOLD.make();
        x.leaves(3, 3);
        due.is("undo one", x.undo(), 0);
        due.is("undo none more", x.undo(), STATE);
        unchanged("undo none more", x, States.TOLD.make());
    }

    // "STATE: none was kept."
    private static void backState() {
        for (int image = 0; image < 2; image++) {
            int asked = image;
            answers("back " + image + " of a new object", States.NEW, STATE, x -> x.back(asked));
            answers("back " + image + ", none was kept", States.TOLD, STATE, x -> x.back(asked));
        }
        answers("back 0, only 1 was kept", States.ALL_LEFT, STATE, x -> x.back(0));
    }

    private static void badAheadOfState() {
        for (int l : outside(6)) {
            answers("one who left, no such lamp " + l, States.BUSY, BAD, x -> x.leaves(2, l));
            answers("one who can't, no such lamp " + l, States.BUSY, BAD, x -> x.leaves(5, l));
        }
        for (int p : outside(6)) {
            answers("no such one " + p + ", a lamp that is out", States.BUSY, BAD, x -> x.leaves(p, 5));
            answers("no such one " + p + " when all have left", States.ALL_LEFT, BAD, x -> x.leaves(p, 0));
            answers("can no such one " + p + " when all have left", States.ALL_LEFT, BAD, x -> x.can(p));
        }
        answers("no such image, none kept", States.TOLD, BAD, x -> x.back(2));
        answers("no such image, none kept", States.TOLD, BAD, x -> x.back(-1));
    }

    private static void badAheadOfFull() {
        answers("no byte to a full text", States.TEXT_FULL, BAD, x -> x.type(0, 0));
        answers("nine bytes to a full text", States.TEXT_FULL, BAD, x -> x.type(0, 9));
        answers("after 7 when full", States.SEEN_FULL, BAD, x -> x.saw(7, 0, 0));
        answers("after -1 when full", States.SEEN_FULL, BAD, x -> x.saw(-1, 0, 0));
        answers("cell 12 when full", States.SEEN_FULL, BAD, x -> x.saw(0, 12, 0));
        answers("light 2 when full", States.SEEN_FULL, BAD, x -> x.saw(0, 0, 2));
        DarkLeavers x = Due.told("wall 3 2;");
        for (int i = 0; i < 8; i++) {
            x.saw(0, 0, 0);
        }
        due.is("a wall when full", x.saw(0, 11, 0), BAD);
        due.is("a cell beside it when full", x.saw(0, 10, 0), FULL);
        due.is("eight still", x.count(6), 8);
    }

    private static void badAheadOfNotSoMany() {
        for (States state : States.values()) {
            answers("order beyond all", state, NOT_SO_MANY, x -> x.order(6, 0));
            answers("order beyond all, what 2", state, BAD, x -> x.order(6, 2));
            answers("order beyond all, what -1", state, BAD, x -> x.order(MAX, -1));
        }
    }
}
