/**
 * What the calls answer at the edges that the document names: nothing there, all there, the first and the last that may
 * be, not so many, nobody, no light. What is refused stands in RefusalsTest, what a text may tell in TextEdgesTest.
 */
public final class CallEdgesTest {
    private static final int NONE = -9, NOT_SO_MANY = -5, MAX = Integer.MAX_VALUE;
    // Cells 0 1 2 3 7 11 10 9 8 in a row round two walls: the longest way that a hall can have, of eight steps.
    private static final String SNAKE = "wall 0 1;wall 1 1;wall 2 1;";
    private static final int[] ON_THE_WAY = {0, 1, 2, 3, 7, 11, 10, 9, 8};
    // Lamp 2 shines on all, lamp 0 on person 0, lamp 1 on person 1: twelve rows, whichever goes first.
    private static final String THREE_LAMPS =
            "hall 3 1;lamp 0 0 0;lamp 1 0 0;lamp 2 0 9;person 0 0 0 0;person 1 0 0 0;";
    private static final Due due = new Due("CallEdgesTest");

    public static void main(String[] args) {
        newObject();
        typeTakesTheLowestBytes();
        typeTakesBytesOfAllKinds();
        clearAnyLength();
        reachStepsOffAtMost();
        stepsInRowOrColumn();
        walls();
        lightOfSeveralLamps();
        someLampIsLit();
        byLawOne();
        leavesOneToSix();
        undoSixToNone();
        everySizeOfHall();
        cellsOfEachHall();
        someMustStay();
        orderTurnByTurn();
        barOfSeveral();
        griefWithoutASign();
        gameOfEmptySides();
        worthOfEachReach();
        sawFirstToEighth();
        afterMoreThanThereArePeople();
        seenAtBothEnds();
        whoOfNoRows();
        marks();
        trace();
        images();
        imagesKeepTheOrder();
        imagesKeepWhatWasSeen();
        imagesKeepNothingElse();
        counts();
        fiveHundredAndTwelveCalls();
        due.end();
    }

    private static String lampsAndPeople(int lamps, int people) {
        return "lamp 0 0 9;".repeat(lamps) + "person 3 2 0 0;".repeat(people);
    }

    // "As told; no WALLS, no DOORS, no LAMPS, nobody."
    private static void newObject() {
        DarkLeavers x = new DarkLeavers();
        for (int c = 0; c < 12; c++) {
            due.is("1 no wall " + c, x.cell(c, 0), 0);
            due.is("1 no door " + c, x.cell(c, 1), 0);
            due.is("1 no light " + c, x.cell(c, 2), 0);
            due.is("1 worth nothing to nobody " + c, x.worth(c, 9), 0);
        }
        due.is("1 most", x.most(), 0);
        due.is("1 order", x.order(0, 0), NOT_SO_MANY);
        due.is("1 order lamp", x.order(0, 1), NOT_SO_MANY);
        due.is("1 rows", x.rows(), 1);
        due.is("1 bar", x.bar(), NONE);
        due.is("1 grief", x.grief(), 0);
        due.is("1 game", x.game(), 1);
        due.is("1 fits", x.fits(), 1);
        due.is("1 forget", x.forget(), 0);
        due.is("1 clear", x.clear(), 0);
        due.is("1 keep", x.keep(0), 0);
        due.is("1 back", x.back(0), 0);
        due.is("1 hall", x.hall(), 0);
        due.is("1 no image any more", x.back(0), -2);
    }

    // "The lowest n (1 .. 8) bytes of v, the highest of them first": what stands above them counts for nothing.
    private static void typeTakesTheLowestBytes() {
        String text = "person 2 1 7 1;lamp 3 2 4;law 1;";
        for (int n = 1; n <= 8; n++) {
            for (long above : new long[] {0L, -1L, 0x3B3B3B3B3B3B3B3BL}) {
                DarkLeavers x = new DarkLeavers();
                for (int from = 0; from < text.length(); from += n) {
                    String piece = text.substring(from, Math.min(text.length(), from + n));
                    int end = from + piece.length();
                    due.is("2 type " + n, x.type(bytes(piece, above), piece.length()), end);
                }
                due.is("2 read by " + n, x.hall(), 3);
                due.is("2 the lamp", x.lamp(0, 0), 11);
                due.is("2 its reach", x.lamp(0, 1), 4);
                due.is("2 the one", x.person(0, 1), 7);
            }
        }
    }

    private static long bytes(String piece, long above) {
        long v = above;
        for (int i = 0; i < piece.length(); i++) {
            v = (v << 8) | piece.charAt(i);
        }
        return v;
    }

    private static void typeTakesBytesOfAllKinds() {
        DarkLeavers x = new DarkLeavers();
        due.is("2 nothing but zeros", x.type(0L, 8), 8);
        due.is("2 the least", x.type(Long.MIN_VALUE, 8), 16);
        due.is("2 the greatest", x.type(Long.MAX_VALUE, 1), 17);
        due.is("2 a zero begins no token", x.hall(), -10);
        due.is("2 all are there", x.clear(), 17);
        due.is("2 a blank", x.type(0x3B20, 1), 1);
        due.is("2 it alone was taken", x.hall(), 0);
    }

    // "THE TEXT is empty: how many bytes it had."
    private static void clearAnyLength() {
        for (int length : new int[] {0, 1, 8, 299, 300}) {
            DarkLeavers x = States.BUSY.make();
            x.clear();
            Due.typeAll(x, "x".repeat(length));
            due.is("3 had", x.clear(), length);
            due.is("3 has", x.count(7), 0);
            due.is("3 again", x.clear(), 0);
            DarkLeavers twin = States.BUSY.make();
            twin.clear();
            due.holds("3 nothing else changes", Whole.of(x).equals(Whole.of(twin)));
        }
    }

    // "shines on CELLS (no WALLS) that are REACH steps off at most"
    private static void reachStepsOffAtMost() {
        for (int from : new int[] {0, 4, 8}) {
            for (int reach = 0; reach <= 9; reach++) {
                int cell = ON_THE_WAY[from];
                DarkLeavers x = Due.told(SNAKE + "lamp " + cell % 4 + " " + cell / 4 + " " + reach + ";");
                int want = 0;
                for (int i = 0; i < ON_THE_WAY.length; i++) {
                    want |= Math.abs(i - from) <= reach ? 1 << ON_THE_WAY[i] : 0;
                }
                due.is("6 reach " + reach + " from " + cell, x.lamp(0, 3), want);
                for (int c = 0; c < 12; c++) {
                    due.is("5 light " + c, x.cell(c, 2), want >> c & 1);
                }
            }
        }
    }

    // "each step to a CELL beside (in its row or column)": none from the end of a row to the next row's beginning.
    private static void stepsInRowOrColumn() {
        for (int wide = 1; wide <= 4; wide++) {
            for (int high = 1; high <= 3; high++) {
                for (int c = 0; c < wide * high; c++) {
                    for (int reach = 0; reach <= 6; reach++) {
                        int want = 0;
                        for (int d = 0; d < wide * high; d++) {
                            int steps = Math.abs(c % wide - d % wide) + Math.abs(c / wide - d / wide);
                            want |= steps <= reach ? 1 << d : 0;
                        }
                        DarkLeavers x = Due.told("hall " + wide + " " + high + ";lamp " + c % wide + " " + c / wide
                                + " " + reach + ";");
                        due.is("6 " + wide + " by " + high + ", lamp in " + c + ", " + reach, x.lamp(0, 3), want);
                    }
                }
            }
        }
    }

    // "that is no WALL"
    private static void walls() {
        due.is("6 shut in", Due.told("wall 1 0;wall 0 1;lamp 0 0 9;").lamp(0, 3), 1);
        due.is("6 shut off", Due.told("hall 3 1;wall 1 0;lamp 0 0 9;").lamp(0, 3), 1);
        due.is("6 a corner is no way", Due.told("hall 2 2;wall 1 0;wall 0 1;lamp 0 0 9;").lamp(0, 3), 1);
        DarkLeavers x = Due.told("hall 3 2;wall 1 0;lamp 0 0 9;");
        due.is("6 round a wall", x.lamp(0, 3), 1 | 4 | 8 | 16 | 32);
        due.is("5 a wall is not light", x.cell(1, 2), 0);
    }

    // "A CELL is LIGHT, if some LAMP shines on it."
    private static void lightOfSeveralLamps() {
        DarkLeavers x = Due.told("hall 3 1;lamp 0 0 1;lamp 2 0 1;person 1 0 0 0;person 1 0 0 0;");
        due.is("5 by both", x.cell(1, 2), 1);
        x.leaves(0, 0);
        due.is("5 by the one", x.cell(1, 2), 1);
        due.is("5 by none", x.cell(0, 2), 0);
        x.leaves(1, 1);
        due.is("5 all dark", x.cell(0, 2) + x.cell(1, 2) + x.cell(2, 2), 0);
        due.is("6 what it shines on when it is lit", x.lamp(0, 3), 3);
    }

    // "One CAN LEAVE, if some LAMP is LIT, its CELL is LIGHT"
    private static void someLampIsLit() {
        due.is("8 no lamp", Due.told("person 0 0 0 0;").can(0), 0);
        due.is("8 a lamp elsewhere", Due.told("lamp 1 0 0;person 0 0 0 0;").can(0), 0);
        due.is("8 a lamp here", Due.told("lamp 0 0 0;person 0 0 0 0;").can(0), 1);
        DarkLeavers x = Due.told("lamp 0 0 9;person 0 0 0 0;person 0 0 0 0;");
        x.leaves(1, 0);
        due.is("8 no lamp is lit any more", x.can(0), 0);
    }

    // "and by LAW 1 there is a way from it to a CELL with a DOOR by steps over CELLS that are LIGHT, all"
    private static void byLawOne() {
        String row = "hall 4 1;law 1;door 0 0;";
        due.is("8 all light", Due.told(row + "lamp 0 0 3;person 3 0 0 0;").can(0), 1);
        due.is("8 its own cell dark", Due.told(row + "lamp 0 0 2;person 3 0 0 0;").can(0), 0);
        due.is("8 the door's cell dark", Due.told(row + "lamp 3 0 2;person 3 0 0 0;").can(0), 0);
        due.is("8 a cell between dark", Due.told(row + "lamp 0 0 1;lamp 3 0 0;person 3 0 0 0;").can(0), 0);
        due.is("8 light by two lamps", Due.told(row + "lamp 0 0 1;lamp 3 0 1;person 3 0 0 0;").can(0), 1);
        due.is("8 at the door", Due.told(row + "lamp 0 0 0;person 0 0 0 0;").can(0), 1);
        due.is("8 no door", Due.told("law 1;lamp 0 0 9;person 0 0 0 0;").can(0), 0);
        due.is("8 law 0 needs none", Due.told("law 0;lamp 0 0 9;person 0 0 0 0;").can(0), 1);
        due.is("8 a corner is no way",
                Due.told("hall 2 2;law 1;door 1 1;lamp 0 0 0;lamp 1 1 0;person 0 0 0 0;").can(0), 0);
        due.is("8 the other of two doors",
                Due.told("hall 4 1;law 1;door 0 0;door 3 0;lamp 3 0 1;person 2 0 0 0;").can(0), 1);
        due.is("8 the next row is no way",
                Due.told("hall 2 2;law 1;door 0 1;lamp 1 0 0;lamp 0 1 0;person 1 0 0 0;").can(0), 0);
        due.is("8 the longest way", Due.told(SNAKE + "law 1;door 0 2;lamp 0 0 8;person 0 0 0 0;").can(0), 1);
        due.is("8 one step too long", Due.told(SNAKE + "law 1;door 0 2;lamp 0 0 7;person 0 0 0 0;").can(0), 0);
    }

    // "One LEAVES, and puts out a LAMP: how many have LEFT."
    private static void leavesOneToSix() {
        DarkLeavers x = Due.told(States.SIX_LIGHT);
        for (int i = 0; i < 6; i++) {
            due.is("9 left", x.leaves(5 - i, i), i + 1);
            due.is("9 it has left", x.person(5 - i, 3), i);
            due.is("9 the lamp is out", x.lamp(i, 2), 0);
            due.is("9 so many are lit", x.count(3), 5 - i);
            due.is("9 light while one is lit", x.cell(11, 2), i < 5 ? 1 : 0);
        }
        due.is("9 none left to leave", x.most(), 0);
    }

    // "UNDONE: the latest one who LEFT, and the LAMP."
    private static void undoSixToNone() {
        DarkLeavers x = States.ALL_LEFT.make();
        for (int i = 5; i >= 0; i--) {
            due.is("10 so many left", x.undo(), i);
            due.is("10 the latest is there", x.person(i, 3), NONE);
            due.is("10 its lamp is lit", x.lamp(5 - i, 2), 1);
            due.is("10 so many are lit", x.count(3), 6 - i);
            if (i > 0) {
                due.is("10 the one before has left", x.person(i - 1, 3), i - 1);
            }
        }
        due.is("10 none more", x.undo(), -2);
        due.is("10 leaves again", x.leaves(4, 4), 1);
    }

    /** As many lamps that shine on all, as many people, from none to six: all answers by plain sums. */
    private static void everySizeOfHall() {
        for (int lamps = 0; lamps <= 6; lamps++) {
            for (int people = 0; people <= 6; people++) {
                String name = lamps + " lamps, " + people + " people: ";
                DarkLeavers x = Due.told(lampsAndPeople(lamps, people));
                int most = Math.min(lamps, people);
                int rows = rowsOf(lamps, people);
                int grief = people * (people - 1) / 2;
                due.is("11 " + name + "most", x.most(), most);
                orderOf(name, x, most);
                due.is("13 " + name + "rows", x.rows(), rows);
                due.is("14 " + name + "bar", x.bar(), most == 0 ? NONE : (1 << (lamps - most + 1)) - 1);
                due.is("15 " + name + "grief", x.grief(), rows == 0 ? NONE : grief);
                due.is("16 " + name + "game", x.game(), most == 0 ? 1 : 0);
                due.is("17 " + name + "worth", x.worth(0, 9), Math.min(lamps + 1, people) - most);
                due.is("20 " + name + "fits", x.fits(), rows);
                for (int l = 0; l < lamps; l++) {
                    due.is("21 " + name + "who " + l, x.who(l), rows == 0 ? 0 : (1 << people) - 1);
                }
                noSuchThing(name, x, lamps, people);
            }
        }
    }

    // "BAD (.. there is no such thing)": the first number behind the last lamp and the last one.
    private static void noSuchThing(String name, DarkLeavers x, int lamps, int people) {
        due.is("6 " + name + "no lamp", x.lamp(lamps, 2), -1);
        due.is("7 " + name + "no such one", x.person(people, 3), -1);
        due.is("8 " + name + "no such one", x.can(people), -1);
        due.is("9 " + name + "no such one", x.leaves(people, 0), -1);
        due.is("9 " + name + "no lamp", x.leaves(0, lamps), -1);
        due.is("21 " + name + "no lamp", x.who(lamps), -1);
        due.is("22 " + name + "no such one", x.mark(0, people), -1000000);
        if (people > 0) {
            due.is("7 " + name + "the last one", x.person(people - 1, 3), NONE);
            due.is("8 " + name + "the last one", x.can(people - 1), lamps > 0 ? 1 : 0);
            due.is("22 " + name + "the last one", x.mark(4, people - 1), lamps - 11);
        }
        if (people > 0 && lamps > 0) {
            due.is("9 " + name + "the last one, the last lamp", x.leaves(people - 1, lamps - 1), 1);
        }
    }

    // "Of a CELL", "WORTH", "After so many a CELL was LIGHT": the last cell of each hall, and the first that is none.
    private static void cellsOfEachHall() {
        for (int wide = 1; wide <= 4; wide++) {
            for (int high = 1; high <= 3; high++) {
                int cells = wide * high;
                DarkLeavers x = Due.told("hall " + wide + " " + high + ";person " + (wide - 1) + " " + (high - 1) + " 0 0;");
                String name = " of " + wide + " by " + high;
                due.is("5 the last cell" + name, x.cell(cells - 1, 2), 0);
                due.is("5 none" + name, x.cell(cells, 2), -1);
                due.is("17 the last cell" + name, x.worth(cells - 1, 0), 1);
                due.is("17 none" + name, x.worth(cells, 0), -1);
                due.is("18 the last cell" + name, x.saw(0, cells - 1, 0), 1);
                due.is("18 none" + name, x.saw(0, cells, 0), -1);
                due.is("25 cells" + name, x.count(0), cells);
                due.is("25 seen" + name, x.count(6), 1);
            }
        }
    }

    private static int rowsOf(int lamps, int people) {
        int rows = 1;
        for (int i = 0; i < people; i++) {
            rows *= Math.max(0, lamps - i) * (people - i);
        }
        return rows;
    }

    // "who is the k-th (0 on) to LEAVE (what = 0), which LAMP (1); -5: not so many"
    private static void orderOf(String name, DarkLeavers x, int most) {
        for (int k = 0; k < most; k++) {
            due.is("12 " + name + "order " + k, x.order(k, 0), k);
            due.is("12 " + name + "lamp " + k, x.order(k, 1), k);
        }
        for (int k : new int[] {most, most + 1, 7, 64, MAX}) {
            due.is("12 " + name + "order " + k, x.order(k, 0), NOT_SO_MANY);
            due.is("12 " + name + "lamp " + k, x.order(k, 1), NOT_SO_MANY);
        }
    }

    // "ROWS: .. in which all who are there LEAVE", "GRIEF .. NONE: not all can": one in the dark bars them, not MOST.
    private static void someMustStay() {
        DarkLeavers x = Due.told("hall 2 1;lamp 0 0 0;lamp 0 0 0;lamp 0 0 0;person 0 0 0 0;person 1 0 1 1;");
        due.is("11 one can", x.most(), 1);
        due.is("13 not all", x.rows(), 0);
        due.is("15 not all", x.grief(), NONE);
        due.is("20 not all", x.fits(), 0);
        due.is("21 not all", x.who(0), 0);
        due.is("12 the one", x.order(0, 0), 0);
        due.is("12 no other", x.order(1, 0), NOT_SO_MANY);
        x.leaves(0, 0);
        due.is("11 none can", x.most(), 0);
        due.is("13 one is there still", x.rows(), 0);
        due.is("14 none can already", x.bar(), NONE);
        DarkLeavers y = Due.told("lamp 0 0 9;lamp 0 0 9;person 0 0 7 0;person 0 0 0 1;");
        y.leaves(0, 0);
        due.is("13 all who are there", y.rows(), 1);
        due.is("15 one had left ahead", y.grief(), 1);
        due.is("20 from the beginning", y.fits(), 4);
        y.leaves(1, 1);
        due.is("13 nobody is there", y.rows(), 1);
        due.is("15 nobody is there", y.grief(), 0);
        due.is("14 nobody is there", y.bar(), NONE);
        due.is("16 nobody is there", y.game(), 1);
        due.is("20 still from the beginning", y.fits(), 4);
        due.is("21 still from the beginning", y.who(1), 3);
    }

    // "the first by people, then by LAMPS, turn by turn"
    private static void orderTurnByTurn() {
        // Person 0 could put out lamp 0 only by barring person 1, so lamp 1 goes first.
        inOrder("hall 2 1;lamp 1 0 0;lamp 0 0 0;person 0 0 0 0;person 1 0 0 0;", 0, 1, 1, 0);
        // Person 0 can't leave at all, so person 1 is the first.
        DarkLeavers y = Due.told("hall 2 1;lamp 1 0 0;person 0 0 0 0;person 1 0 0 0;");
        due.is("12 the first who can", y.order(0, 0), 1);
        // Person 0 sits in the dark; person 1 must leave lamp 0 for person 2, though it could stay by lamp 1 itself.
        inOrder("hall 3 1;lamp 1 0 0;lamp 0 0 0;person 2 0 0 0;person 0 0 0 0;person 1 0 0 0;", 1, 1, 2, 0);
        // Each needs a lamp of its own, and person 0's is the last.
        inOrder("hall 3 1;lamp 1 0 0;lamp 2 0 0;lamp 0 0 0;person 0 0 0 0;person 1 0 0 0;person 2 0 0 0;",
                0, 2, 1, 0, 2, 1);
        inOrder("hall 3 1;lamp 2 0 0;lamp 1 0 0;lamp 0 0 0;person 0 0 0 0;person 1 0 0 0;person 2 0 0 0;",
                0, 2, 1, 1, 2, 0);
        // Person 0 has gone by lamp 0: neither comes in an order from now.
        DarkLeavers z = Due.told("hall 2 1;lamp 1 0 0;lamp 0 0 0;person 1 0 0 0;person 0 0 0 0;");
        z.leaves(0, 0);
        due.is("12 from now", z.order(0, 0), 1);
        due.is("12 the lamp that is lit", z.order(0, 1), 1);
        due.is("12 none more", z.order(1, 0), NOT_SO_MANY);
    }

    private static void inOrder(String text, int... want) {
        DarkLeavers x = Due.told(text);
        for (int i = 0; i < want.length; i++) {
            due.is("12 turn " + i / 2 + " of " + text, x.order(i / 2, i % 2), want[i]);
        }
        due.is("12 none more of " + text, x.order(want.length / 2, 0), NOT_SO_MANY);
    }

    // "the fewest LAMPS .. of several the least bits": fewer lamps go ahead of less bits.
    private static void barOfSeveral() {
        due.is("14 one lamp of higher bits, not two of lower ones",
                Due.told("hall 2 1;lamp 0 0 0;lamp 0 0 0;lamp 1 0 0;person 0 0 0 0;person 1 0 0 0;").bar(), 4);
        due.is("14 of two alike the lower", Due.told("hall 2 1;lamp 0 0 0;lamp 1 0 0;person 0 0 0 0;person 1 0 0 0;").bar(), 1);
        due.is("14 all six", Due.told(lampsAndPeople(6, 1)).bar(), 63);
        due.is("14 the last alone", Due.told("lamp 0 0 0;".repeat(5) + "lamp 1 0 0;person 1 0 0 0;").bar(), 32);
        DarkLeavers x = Due.told(lampsAndPeople(6, 6));
        for (int i = 0; i < 5; i++) {
            x.leaves(i, i);
            due.is("14 the least that is lit", x.bar(), 1 << (i + 1));
        }
    }

    // "its WISH less how many had LEFT ahead of it .. without a sign, added; the least"
    private static void griefWithoutASign() {
        for (int wish = 0; wish <= 9; wish++) {
            due.is("15 first of all", Due.told("lamp 0 0 0;person 0 0 " + wish + " 0;").grief(), wish);
        }
        DarkLeavers x = Due.told("lamp 0 0 9;".repeat(6) + "person 0 0 0 0;".repeat(5) + "person 0 0 3 0;");
        for (int i = 0; i < 5; i++) {
            x.leaves(i, i);
        }
        due.is("15 later than wished", x.grief(), 2);
        due.is("15 the most that can be", Due.told("lamp 0 0 9;".repeat(6) + "person 0 0 9 0;".repeat(6)).grief(),
                9 + 8 + 7 + 6 + 5 + 4);
        due.is("15 none", Due.told(States.SIX_LIGHT).grief(), 0);
    }

    // "SIDE 0 first; who can not, loses"
    private static void gameOfEmptySides() {
        due.is("16 nobody", Due.told("lamp 0 0 9;").game(), 1);
        due.is("16 no lamps", Due.told("person 0 0 0 0;person 0 0 0 1;").game(), 1);
        due.is("16 nobody on side 0", Due.told("lamp 0 0 9;lamp 0 0 9;person 0 0 0 1;person 0 0 0 1;").game(), 1);
        due.is("16 nobody on side 1", Due.told("lamp 0 0 9;person 0 0 0 0;").game(), 0);
        due.is("16 one each", Due.told("lamp 0 0 9;lamp 0 0 9;person 0 0 0 0;person 0 0 0 1;").game(), 1);
        due.is("16 one each, one lamp", Due.told("lamp 0 0 9;person 0 0 0 0;person 0 0 0 1;").game(), 0);
        for (int lamps = 0; lamps <= 6; lamps++) {
            String text = "lamp 0 0 9;".repeat(lamps) + "person 0 0 0 0;person 0 0 0 1;".repeat(3);
            due.is("16 who takes the last of " + lamps, Due.told(text).game(), lamps % 2 == 1 ? 0 : 1);
        }
        DarkLeavers x = Due.told("lamp 0 0 9;lamp 0 0 9;person 0 0 0 0;person 0 0 0 1;");
        x.leaves(0, 0);
        due.is("16 side 0 is first from now, and can not", x.game(), 1);
    }

    // "WORTH of a CELL and a REACH": 0 .. 9, from each cell of the way.
    private static void worthOfEachReach() {
        DarkLeavers x = Due.told(SNAKE + "person 0 2 0 0;");
        for (int i = 0; i < ON_THE_WAY.length; i++) {
            for (int reach = 0; reach <= 9; reach++) {
                int steps = ON_THE_WAY.length - 1 - i;
                due.is("17 " + ON_THE_WAY[i] + " by " + reach, x.worth(ON_THE_WAY[i], reach), steps <= reach ? 1 : 0);
            }
        }
        for (int c = 4; c < 7; c++) {
            due.is("17 a wall " + c, x.worth(c, 9), -1);
        }
        DarkLeavers y = Due.told("hall 2 1;lamp 0 0 0;person 0 0 0 0;person 0 0 0 0;person 1 0 0 0;");
        due.is("17 one lamp, one more", y.worth(0, 1), 1);
        y.leaves(0, 0);
        due.is("17 all are out", y.worth(0, 0), 1);
        due.is("17 it lights one of two", y.worth(1, 0), 1);
        DarkLeavers all = Due.told(lampsAndPeople(6, 6));
        due.is("17 a seventh lamp for six people", all.worth(0, 9), 0);
        DarkLeavers dark = Due.told("lamp 0 0 0;".repeat(6) + "person 3 2 0 0;".repeat(6));
        due.is("17 a seventh that all need", dark.worth(11, 0), 6);
        due.is("17 most without it", dark.most(), 0);
        due.is("17 no seventh stays", dark.lamp(6, 0), -1);
        DarkLeavers chain = Due.told("hall 4 1;law 1;door 0 0;lamp 0 0 0;lamp 3 0 0;person 3 0 0 0;person 0 0 0 0;");
        due.is("17 a lamp that makes a way", chain.worth(1, 1), 1);
        due.is("17 one that does not", chain.worth(1, 0), 0);
    }

    // "After so many (0 .. 6) .. how much was SEEN", "SEEN (8 at most)"
    private static void sawFirstToEighth() {
        for (int after = 0; after <= 6; after++) {
            DarkLeavers x = Due.told(lampsAndPeople(6, 6));
            due.is("18 light after " + after, x.saw(after, 0, 1), 1);
            due.is("20 it fits, but after all", x.fits(), after < 6 ? 518400 : 0);
            due.is("18 dark after " + after, x.saw(after, 11, 0), 2);
            due.is("20 both fit none", x.fits(), 0);
        }
        DarkLeavers y = Due.told("hall 1 1;");
        for (int i = 1; i <= 8; i++) {
            due.is("18 seen " + i, y.saw(0, 0, 0), i);
            due.is("25 seen " + i, y.count(6), i);
        }
        due.is("18 a ninth", y.saw(0, 0, 0), -3);
        due.is("19 eight", y.forget(), 8);
        due.is("19 none", y.forget(), 0);
        due.is("18 the first again", y.saw(6, 0, 1), 1);
        DarkLeavers last = Due.told(lampsAndPeople(1, 1));
        for (int i = 0; i < 7; i++) {
            last.saw(0, 0, 1);
        }
        due.is("20 seven that fit", last.fits(), 1);
        last.saw(1, 0, 1);
        due.is("20 the eighth counts, too", last.fits(), 0);
    }

    // "(after more than there are people: none)"
    private static void afterMoreThanThereArePeople() {
        for (int people = 0; people <= 6; people++) {
            for (int after = 0; after <= 6; after++) {
                DarkLeavers x = Due.told(lampsAndPeople(6, people));
                x.saw(after, 0, after < 6 ? 1 : 0);
                due.is("20 " + people + " people, after " + after, x.fits(), after > people ? 0 : rowsOf(6, people));
                due.is("21 " + people + " people, after " + after, x.who(5), after > people ? 0 : (1 << people) - 1);
                x.forget();
                x.saw(after, 0, after < 6 ? 0 : 1);
                due.is("20 not so, " + people + " people, after " + after, x.fits(), 0);
            }
        }
    }

    // "after so many had LEFT (0 .. 6)": ahead of the first, and behind the last.
    private static void seenAtBothEnds() {
        DarkLeavers x = Due.told(THREE_LAMPS);
        due.is("20 all rows", x.fits(), 12);
        x.saw(0, 2, 1);
        due.is("20 so it was at first", x.fits(), 12);
        x.saw(2, 2, 1);
        // Lamp 2 stays, so lamps 0 and 1 go, in either order, by people in either order.
        due.is("20 light behind all", x.fits(), 4);
        due.is("21 lamp 0", x.who(0), 3);
        due.is("21 lamp 2 stays", x.who(2), 0);
        x.saw(1, 1, 1);
        due.is("20 all three", x.fits(), 4);
        x.forget();
        x.saw(0, 0, 0);
        due.is("20 not so at first", x.fits(), 0);
        due.is("21 not so at first", x.who(0) + x.who(1) + x.who(2), 0);
    }

    // "WHO can have put out a LAMP: people (bits) who did in some of these."
    private static void whoOfNoRows() {
        due.is("21 nobody there", Due.told("lamp 0 0 9;").who(0), 0);
        due.is("21 none can", Due.told("lamp 0 0 0;person 1 0 0 0;").who(0), 0);
        due.is("21 the last of six", Due.told(lampsAndPeople(6, 1)).who(5), 1);
        DarkLeavers x = Due.told("hall 2 1;lamp 0 0 0;lamp 1 0 0;person 0 0 0 0;person 1 0 0 0;");
        due.is("21 each its own", x.who(0), 1);
        due.is("21 each its own", x.who(1), 2);
        x.leaves(0, 0);
        x.leaves(1, 1);
        due.is("21 from the beginning", x.who(0), 1);
        x.saw(1, 0, 1);
        due.is("21 it was the last", x.who(0), 1);
        due.is("21 it was the first", x.who(1), 2);
        x.forget();
        x.saw(1, 0, 0);
        due.is("21 it was the first", x.who(0), 1);
        due.is("21 it was the last", x.who(1), 2);
        DarkLeavers dark = Due.told("hall 3 1;lamp 0 0 0;lamp 0 0 0;lamp 1 0 0;lamp 1 0 0;"
                + "person 0 0 0 0;person 1 0 0 0;person 2 0 0 0;");
        due.is("21 one stays in the dark", dark.who(0) + dark.who(1) + dark.who(2) + dark.who(3), 0);
    }

    // "0 GUEST; 1 AUNT, 2 WAITER, 5 FIDDLER .. 3 GREAT-AUNT .. 4 PORTER"
    private static void marks() {
        DarkLeavers x = Due.told("lamp 0 0 9;".repeat(6) + "person 3 2 9 1;person 0 0 0 0;" + "person 3 2 0 1;".repeat(4));
        int[] most = {9, 9, 15, 18, 4, 10};
        int[] least = {0, 0, 6, 0, 6, 0};
        for (int kind = 0; kind < 6; kind++) {
            due.is("22 kind " + kind, x.mark(kind, 0), most[kind]);
            due.is("22 kind " + kind + " of wish 0", x.mark(kind, 1), least[kind]);
        }
        for (int i = 0; i < 6; i++) {
            x.leaves(i, i);
        }
        int[] mostThen = {9, 15, 9, 30, -2, 10};
        int[] leastThen = {0, 6, 0, 12, -11, 1};
        for (int kind = 0; kind < 6; kind++) {
            due.is("22 kind " + kind + " when all have left", x.mark(kind, 0), mostThen[kind]);
            due.is("22 kind " + kind + " of the last", x.mark(kind, 5), leastThen[kind]);
        }
    }

    // "numbers in brackets come to THE TRACE as often as mark() asks that body"
    private static void trace() {
        long[] each = {1, 11, 101, 1011, 10101, 100001};
        for (int kind = 0; kind < 6; kind++) {
            DarkLeavers x = Due.told("person 0 0 0 0;");
            due.is("26 nothing yet", x.trace(), 0);
            for (int times = 1; times <= 3; times++) {
                x.mark(kind, 0);
                due.is("26 kind " + kind + ", " + times + " times", x.trace(), times * each[kind]);
            }
            Due.typeAll(x, "person 0 0 0 0;");
            x.hall();
            due.is("26 a hall told anew", x.trace(), 3 * each[kind]);
        }
    }

    // "IMAGES 0, 1 keep NOW (who LEFT, which LAMPS, in what order, what was SEEN)"
    private static void images() {
        for (int image = 0; image < 2; image++) {
            DarkLeavers x = Due.told(States.SIX_LIGHT);
            due.is("23 of none", x.keep(image), 0);
            x.leaves(1, 2);
            due.is("24 of none", x.back(image), 0);
            due.is("24 person 1 is there", x.person(1, 3), NONE);
            due.is("24 the other was not kept", x.back(1 - image), -2);
            for (int i = 0; i < 6; i++) {
                x.leaves((i + 2) % 6, (i + 5) % 6);
            }
            for (int i = 0; i < 8; i++) {
                x.saw(i % 7, i, 1);
            }
            due.is("23 of six", x.keep(1 - image), 6);
            due.is("24 of none again", x.back(image), 0);
            due.is("24 nothing seen", x.count(6), 0);
            due.is("24 of six", x.back(1 - image), 6);
            due.is("24 eight seen", x.count(6), 8);
            for (int i = 5; i >= 0; i--) {
                due.is("24 in what order", x.person((i + 2) % 6, 3), i);
                due.is("24 undone", x.undo(), i);
                due.is("24 which lamp", x.lamp((i + 5) % 6, 2), 1);
            }
            due.is("24 it stays kept", x.back(1 - image), 6);
            due.is("23 kept over", x.keep(image), 6);
            x.undo();
            due.is("24 kept over", x.back(image), 6);
        }
    }

    private static void imagesKeepTheOrder() {
        for (int image = 0; image < 2; image++) {
            DarkLeavers x = Due.told(States.SIX_LIGHT);
            x.leaves(4, 0);
            x.leaves(0, 3);
            x.keep(image);
            x.undo();
            x.undo();
            x.leaves(0, 3);
            x.leaves(4, 0);
            x.leaves(5, 5);
            due.is("24 back", x.back(image), 2);
            due.is("24 who was first", x.person(4, 3), 0);
            due.is("24 who was second", x.person(0, 3), 1);
            due.is("24 who is there", x.person(5, 3), NONE);
            due.is("24 its lamp is lit", x.lamp(5, 2), 1);
            due.is("24 undone", x.undo(), 1);
            due.is("24 the lamp of the second", x.lamp(3, 2), 1);
            due.is("24 the lamp of the first", x.lamp(0, 2), 0);
            due.is("24 the second is there", x.person(0, 3), NONE);
        }
    }

    /** Things seen that differ in the turn, the cell or the light alone, each with its own number of rows. */
    private static void imagesKeepWhatWasSeen() {
        int[][] things = {{2, 2, 1, 4}, {0, 2, 1, 12}, {2, 0, 1, 8}, {2, 2, 0, 8}, {1, 2, 0, 4}};
        for (int[] kept : things) {
            for (int[] other : things) {
                DarkLeavers x = Due.told(THREE_LAMPS);
                x.saw(kept[0], kept[1], kept[2]);
                x.keep(1);
                due.is("20 what is kept", x.fits(), kept[3]);
                x.forget();
                x.saw(other[0], other[1], other[2]);
                x.saw(0, 0, 1);
                due.is("20 what was seen then", x.fits(), other[3]);
                x.back(1);
                due.is("24 what was kept", x.fits(), kept[3]);
                due.is("24 one thing", x.forget(), 1);
                due.is("20 nothing seen", x.fits(), 12);
            }
        }
    }

    // "nothing else": THE TEXT, THE TRACE and the other IMAGE stay as they are.
    private static void imagesKeepNothingElse() {
        DarkLeavers x = Due.told(States.HALL);
        x.keep(0);
        x.leaves(0, 0);
        x.keep(1);
        Due.typeAll(x, "law 0;");
        x.mark(0, 0);
        due.is("24 back", x.back(0), 0);
        due.is("24 the text", x.count(7), 6);
        due.is("24 the trace", x.trace(), 1);
        due.is("24 the law", x.count(5), 1);
        due.is("24 the other image", x.back(1), 1);
        due.is("24 the text can be read", x.hall(), 1);
        due.is("24 it was as typed", x.count(5), 0);
    }

    // "0 CELLS, 1 LAMPS, 2 people, 3 LAMPS that are LIT, 4 how many have LEFT, 5 LAW, 6 SEEN, 7 bytes of THE TEXT"
    private static void counts() {
        DarkLeavers least = Due.told("hall 1 1;");
        int[] few = {1, 0, 0, 0, 0, 0, 0, 0};
        DarkLeavers full = Due.told("law 1;door 0 0;" + States.SIX_LIGHT);
        for (int i = 0; i < 8; i++) {
            full.saw(0, 0, 1);
        }
        Due.typeAll(full, " ".repeat(300));
        int[] many = {12, 6, 6, 6, 0, 1, 8, 300};
        for (int what = 0; what < 8; what++) {
            due.is("25 least " + what, least.count(what), few[what]);
            due.is("25 most " + what, full.count(what), many[what]);
        }
        for (int i = 0; i < 6; i++) {
            full.leaves(i, i);
            due.is("25 left", full.count(4), i + 1);
            due.is("25 lit", full.count(3), 5 - i);
            due.is("25 people, those who left among them", full.count(2), 6);
            due.is("25 lamps, those that are out among them", full.count(1), 6);
        }
    }

    // "An object is used for at most 512 calls": the last of them answers as the first.
    private static void fiveHundredAndTwelveCalls() {
        DarkLeavers x = new DarkLeavers();
        Due.typeAll(x, "person 0 0 9 1;lamp 0 0 0;");
        int calls = 1 + 4;
        due.is("told", x.hall(), 2);
        calls++;
        int marks = 0;
        while (calls < 510) {
            due.is("mark", x.mark(5, 0), 10);
            calls++;
            marks++;
        }
        due.is("the 511th", x.trace(), 100001L * marks);
        due.is("the 512th", x.leaves(0, 0), 1);
        DarkLeavers y = Due.told(lampsAndPeople(1, 1));
        for (int i = 0; i < 240; i++) {
            due.is("leaves and", y.leaves(0, 0), 1);
            due.is("undone", y.undo(), 0);
        }
        DarkLeavers z = new DarkLeavers();
        for (int i = 0; i < 300; i++) {
            due.is("byte by byte", z.type(' ', 1), i + 1);
        }
        due.is("all blanks", z.hall(), 0);
        for (int i = 0; i < 200; i++) {
            due.is("told again and again", z.hall(), 0);
        }
    }
}
