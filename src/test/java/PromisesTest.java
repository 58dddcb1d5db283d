/** One method for each promise of the document: ordinary inputs, edges, wrong inputs. */
public final class PromisesTest {
    private static final int MIN = Integer.MIN_VALUE, MAX = Integer.MAX_VALUE;
    private static final String SIX = "lamp 0 0 9;lamp 0 0 9;lamp 0 0 9;lamp 0 0 9;lamp 0 0 9;lamp 0 0 9;"
            + "person 0 0 5 0;person 1 0 4 1;person 2 0 3 0;person 3 0 2 1;person 3 1 1 0;person 3 2 0 1;";
    // One row of four cells: lamp 0 shines on 0 and 1, lamp 1 on 3 alone.
    private static final String ROW = "hall 4 1;door 0 0;lamp 0 0 1;lamp 3 0 0;person 1 0 2 0;person 3 0 0 1;";
    private static final Due due = new Due("PromisesTest");

    public static void main(String[] args) {
        constants();
        aNewObject();
        type();
        clear();
        hallTells();
        hallReadAnew();
        hallFaults();
        hallTokens();
        cell();
        lamp();
        person();
        can();
        leaves();
        undo();
        most();
        order();
        rows();
        bar();
        grief();
        game();
        worth();
        saw();
        forget();
        fits();
        who();
        mark();
        keepAndBack();
        count();
        trace();
        wrongNumbers();
        due.end();
    }

    private static void constants() {
        due.is("BAD", DarkLeavers.BAD, -1);
        due.is("STATE", DarkLeavers.STATE, -2);
        due.is("FULL", DarkLeavers.FULL, -3);
        due.is("NONE", DarkLeavers.NONE, -9);
        due.is("NO", DarkLeavers.NO, -1000000);
    }

    private static void aNewObject() {
        DarkLeavers x = new DarkLeavers();
        int[] counts = {12, 0, 0, 0, 0, 0, 0, 0};
        for (int what = 0; what < counts.length; what++) {
            due.is("1 new count " + what, x.count(what), counts[what]);
        }
        for (int c = 0; c < 12; c++) {
            for (int what = 0; what < 3; what++) {
                due.is("1 new cell " + c + " " + what, x.cell(c, what), 0);
            }
        }
        due.is("1 new trace", x.trace(), 0);
        due.is("1 new back", x.back(1), -2);
        due.is("1 new lamp", x.lamp(0, 0), -1);
        due.is("1 new person", x.person(0, 0), -1);
        due.is("1 new undo", x.undo(), -2);
        due.is("1 new rows", x.rows(), 1);
        due.is("1 new fits", x.fits(), 1);
        due.is("1 new game", x.game(), 1);
        DarkLeavers y = new DarkLeavers();
        Due.typeAll(x, "law 1;");
        x.hall();
        due.is("1 objects are apart", y.count(5), 0);
    }

    private static void type() {
        DarkLeavers x = new DarkLeavers();
        due.is("2 n 0", x.type(1, 0), -1);
        due.is("2 n 9", x.type(1, 9), -1);
        due.is("2 n below", x.type(1, MIN), -1);
        due.is("2 n above", x.type(1, MAX), -1);
        due.is("2 refused adds nothing", x.count(7), 0);
        due.is("2 one", x.type(0x6C, 1), 1);
        due.is("2 the lowest bytes, the highest first", x.type(0x77777777_6177_2031L, 4), 5);
        due.is("2 one more", x.type(';', 1), 6);
        due.is("2 read", x.hall(), 1);
        due.is("2 law is told", x.count(5), 1);
        due.is("2 eight", x.type(-1L, 8), 8);
        due.is("2 its bytes", x.hall(), -10);
        for (int i = 0; i < 36; i++) {
            x.type(0x2020202020202020L, 8);
        }
        due.is("2 nearly full", x.count(7), 296);
        due.is("2 five too many", x.type(0, 5), -3);
        due.is("2 bad ahead of full", x.type(0, 9), -1);
        due.is("2 full adds nothing", x.count(7), 296);
        due.is("2 up to the limit", x.type(0, 4), 300);
        due.is("2 full", x.type(0, 1), -3);
        due.is("2 bad when full", x.type(0, 0), -1);
    }

    private static void clear() {
        DarkLeavers x = Due.told("law 1;");
        due.is("3 empty", x.clear(), 0);
        Due.typeAll(x, "lamp 0 0 0;");
        due.is("3 had", x.clear(), 11);
        due.is("3 has", x.count(7), 0);
        due.is("3 the hall stays", x.count(5), 1);
        due.is("3 what was there is not read", x.hall(), 0);
        for (int i = 0; i < 300; i++) {
            x.type(200, 1);
        }
        due.is("3 full had", x.clear(), 300);
        due.is("3 again from the beginning", x.type(32, 1), 1);
    }

    private static void hallTells() {
        DarkLeavers x = new DarkLeavers();
        String text = "  hall 3 2 ;wall 1 0;wall 1 0;law 1;wall 2 0;door 0 1;door 0 1;lamp 0 0 9;"
                + "person 2 1 9 1;lamp 2 1 0;person 0 1 0 0;  ";
        due.is("4 typed", Due.typeAll(x, text), text.length());
        due.is("4 items", x.hall(), 11);
        due.is("4 the text is empty", x.count(7), 0);
        int[] counts = {6, 2, 2, 2, 0, 1, 0, 0};
        for (int what = 0; what < counts.length; what++) {
            due.is("4 count " + what, x.count(what), counts[what]);
        }
        due.is("4 wall", x.cell(1, 0), 1);
        due.is("4 wall behind a law", x.cell(2, 0), 1);
        due.is("4 door", x.cell(3, 1), 1);
        due.is("4 lamp 1", x.lamp(1, 0), 5);
        due.is("4 person 0", x.person(0, 0), 5);
        due.is("4 an empty text tells the first hall", x.hall(), 0);
        due.is("4 twelve cells again", x.count(0), 12);
        due.is("4 law 0 again", x.count(5), 0);
        due.is("4 no lamps", x.count(1), 0);
        due.is("4 no walls", x.cell(1, 0), 0);
        due.is("4 no doors", x.cell(3, 1), 0);
        Due.typeAll(x, "   ");
        due.is("4 blanks alone", x.hall(), 0);
        due.is("4 blanks are read away", x.count(7), 0);
    }

    private static void hallReadAnew() {
        DarkLeavers x = Due.told(SIX);
        x.mark(0, 0);
        x.leaves(0, 0);
        x.saw(0, 0, 1);
        x.keep(0);
        x.keep(1);
        Due.typeAll(x, "law 2;");
        due.is("4 a fault", x.hall(), -14);
        due.is("4 a fault leaves who left", x.count(4), 1);
        due.is("4 a fault leaves what was seen", x.count(6), 1);
        due.is("4 a fault leaves images", x.back(1), 1);
        due.is("4 a fault leaves the lamps", x.count(1), 6);
        due.is("4 a fault leaves the text", x.clear(), 6);
        Due.typeAll(x, SIX);
        due.is("4 read anew", x.hall(), 12);
        due.is("4 all are there", x.count(4), 0);
        due.is("4 person 0 is there", x.person(0, 3), -9);
        due.is("4 all is lit", x.count(3), 6);
        due.is("4 nothing seen", x.count(6), 0);
        due.is("4 image 0 is gone", x.back(0), -2);
        due.is("4 image 1 is gone", x.back(1), -2);
        due.is("4 nothing to undo", x.undo(), -2);
        due.is("4 the trace stays", x.trace(), 1);
        Due.typeAll(x, "hall 2 1;wall 1 0;law 1;door 0 0;lamp 0 0 0;person 0 0 0 0;");
        due.is("4 another", x.hall(), 6);
        due.is("4 another's grief", x.grief(), 0);
        Due.typeAll(x, "person 0 0 3 0;");
        due.is("4 a third", x.hall(), 1);
        due.is("4 grief of the third", x.grief(), -9);
        int[] counts = {12, 0, 1, 0, 0, 0, 0, 0};
        x.hall();
        Due.typeAll(x, "person 0 0 3 0;");
        x.hall();
        for (int what = 0; what < counts.length; what++) {
            due.is("4 nothing of the halls before: " + what, x.count(what), counts[what]);
        }
        for (int c = 0; c < 12; c++) {
            due.is("4 no wall of the halls before", x.cell(c, 0) + x.cell(c, 1), 0);
        }
    }

    private static void fault(String text, int place) {
        DarkLeavers x = new DarkLeavers();
        Due.typeAll(x, text);
        due.is("4 fault of '" + text + "'", x.hall(), -10 - place);
        due.is("4 text kept of '" + text + "'", x.count(7), text.length());
        due.is("4 no lamp of '" + text + "'", x.count(1), 0);
        due.is("4 cells kept of '" + text + "'", x.count(0), 12);
    }

    private static void hallFaults() {
        fault("hall 0 1;", 5);
        fault("hall 5 1;", 5);
        fault("hall 4 0;", 7);
        fault("hall 4 4;", 7);
        fault("hall 1 1;hall 1 1;", 9);
        fault("law 1;hall 1 1;", 6);
        fault("hall 2 2;wall 2 0;", 14);
        fault("hall 2 2;wall 0 2;", 16);
        fault("hall 2 2;lamp 0 2 0;", 16);
        fault("door 0 0;wall 1 1;", 9);
        fault("lamp 0 0 0;wall 1 1;", 11);
        fault("person 0 0 0 0;wall 1 1;", 15);
        fault("wall 3 2;door 3 2;", 16);
        fault("wall 3 2;lamp 3 2 0;", 16);
        fault("wall 3 2;person 3 2 0 0;", 18);
        fault("lamp 0 0 10;", 9);
        fault("person 0 0 10 0;", 11);
        fault("person 0 0 9 2;", 13);
        fault("law 2;", 4);
        fault("law 1;law 1;", 6);
        fault("lamp 0 0 0;lamp 0 0 0;lamp 0 0 0;lamp 0 0 0;lamp 0 0 0;lamp 0 0 0;law 0;lamp", 72);
        fault("person 0 0 0 0;person 0 0 0 0;person 0 0 0 0;person 0 0 0 0;person 0 0 0 0;person 0 0 0 0;"
                + "  person 0 0 0 0;", 92);
        fault("lamp 0 0 0", 10);
        fault("lamp 0 0 0  ", 12);
        fault("lamp", 4);
        fault("lamp 0", 6);
        fault("lamp 0 0 0;law", 14);
        fault("lamp 0 0 0 0;", 11);
        fault("lamp 0 0;", 8);
        fault("lamp 0 0 0;;", 11);
        fault("0", 0);
        fault(" lamp lamp", 6);
        fault("lamp 0 0 0 law 1;", 11);
    }

    private static void hallTokens() {
        fault("halls 1 1;", 0);
        fault("hal 1 1;", 0);
        fault("Hall 1 1;", 0);
        fault("hall 01 1;", 5);
        fault("lamp 00 0 0;", 5);
        fault("lamp 0 0 100;", 9);
        fault("lamp 0 0 99;", 9);
        fault("lamp 0 0 4294967296;", 9);
        fault("lamp 0 0 -1;", 9);
        fault("lamp\t0 0 1;", 4);
        fault("lamp 0 0 0\n;", 10);
        fault("lamp 0 0 0;\u00e9", 11);
        fault("lamp 0 0 0:", 10);
        fault("lamp 0 0 0;{", 11);
        fault("lamp 0 0 0;`", 11);
        fault("lampe 0 0 0;", 0);
        fault("lampz 0 0 0;", 0);
        fault("lampa 0 0 0;", 0);
        fault("people 0 0 0 0;", 0);
        fault("\u0000", 0);
        DarkLeavers x = new DarkLeavers();
        Due.typeAll(x, "lamp1 2 3;law1;person 1 0 0 0;");
        due.is("4 blanks may lack where tokens end by themselves", x.hall(), 3);
        due.is("4 the lamp so told", x.lamp(0, 0), 9);
        StringBuilder laws = new StringBuilder("law 1;");
        while (laws.length() < 291) {
            laws.append("door 0 0;");
        }
        Due.typeAll(x, laws.toString());
        due.is("4 many items", x.hall(), 33);
        for (int i = 0; i < 300; i++) {
            x.type('9', 1);
        }
        due.is("4 a number of 300 digits", x.hall(), -10);
    }

    private static void cell() {
        DarkLeavers x = Due.told("hall 3 2;wall 1 0;door 2 1;lamp 0 0 1;person 0 0 0 0;");
        int[][] want = {{0, 0, 1}, {1, 0, 0}, {0, 0, 0}, {0, 0, 1}, {0, 0, 0}, {0, 1, 0}};
        for (int c = 0; c < 6; c++) {
            for (int what = 0; what < 3; what++) {
                due.is("5 cell " + c + " " + what, x.cell(c, what), want[c][what]);
            }
        }
        due.is("5 cell 6", x.cell(6, 0), -1);
        due.is("5 cell -1", x.cell(-1, 0), -1);
        due.is("5 what 3", x.cell(0, 3), -1);
        due.is("5 what -1", x.cell(0, -1), -1);
        x.leaves(0, 0);
        due.is("5 dark now", x.cell(0, 2), 0);
        DarkLeavers doors = Due.told("door 1 0;door 3 2;door 1 0;");
        due.is("5 several doors", doors.cell(1, 1) + doors.cell(11, 1), 2);
    }

    private static void lamp() {
        DarkLeavers x = Due.told("hall 4 3;wall 1 0;wall 1 1;lamp 0 0 5;lamp 2 1 1;lamp 3 2 0;person 0 0 0 0;");
        due.is("6 cell", x.lamp(1, 0), 6);
        due.is("6 reach", x.lamp(0, 1), 5);
        due.is("6 lit", x.lamp(0, 2), 1);
        // 0, 4, 8, 9, 10, then 6 and 11 at five steps: round the walls.
        due.is("6 round walls", x.lamp(0, 3), 1 | 16 | 256 | 512 | 1024 | 64 | 2048);
        due.is("6 one step", x.lamp(1, 3), 64 | 4 | 128 | 1024);
        due.is("6 no step", x.lamp(2, 3), 2048);
        x.leaves(0, 0);
        due.is("6 out", x.lamp(0, 2), 0);
        due.is("6 when it is lit", x.lamp(0, 3), 1 | 16 | 256 | 512 | 1024 | 64 | 2048);
        due.is("6 lamp 3", x.lamp(3, 0), -1);
        due.is("6 lamp -1", x.lamp(-1, 0), -1);
        due.is("6 what 4", x.lamp(0, 4), -1);
        due.is("6 what -1", x.lamp(0, -1), -1);
        // No light goes round from the end of a row to the beginning of the next one.
        due.is("6 rows end", Due.told("hall 2 3;lamp 1 0 1;").lamp(0, 3), 1 | 2 | 8);
        due.is("6 rows begin", Due.told("hall 2 3;lamp 0 1 1;").lamp(0, 3), 1 | 4 | 8 | 16);
        due.is("6 shut in", Due.told("wall 1 0;wall 0 1;lamp 0 0 9;").lamp(0, 3), 1);
    }

    private static void person() {
        DarkLeavers x = Due.told(SIX);
        due.is("7 cell", x.person(4, 0), 7);
        due.is("7 wish", x.person(1, 1), 4);
        due.is("7 side", x.person(1, 2), 1);
        due.is("7 there", x.person(1, 3), -9);
        x.leaves(4, 1);
        x.leaves(1, 5);
        due.is("7 none ahead", x.person(4, 3), 0);
        due.is("7 one ahead", x.person(1, 3), 1);
        due.is("7 still there", x.person(0, 3), -9);
        due.is("7 cell of one who left", x.person(4, 0), 7);
        x.undo();
        due.is("7 there again", x.person(1, 3), -9);
        due.is("7 person 6", x.person(6, 0), -1);
        due.is("7 person -1", x.person(-1, 0), -1);
        due.is("7 what 4", x.person(0, 4), -1);
        due.is("7 what -1", x.person(0, -1), -1);
    }

    private static void can() {
        DarkLeavers x = Due.told(ROW);
        due.is("8 law 0, light", x.can(0), 1);
        due.is("8 law 0, no way but light", x.can(1), 1);
        due.is("8 person 2", x.can(2), -1);
        due.is("8 person -1", x.can(-1), -1);
        x.leaves(0, 0);
        due.is("8 left", x.can(0), -2);
        x.undo();
        x.leaves(1, 0);
        due.is("8 dark", x.can(0), 0);
        DarkLeavers y = Due.told("law 1;door 0 0;lamp 0 0 1;lamp 3 0 0;person 1 0 2 0;person 3 0 0 1;");
        due.is("8 law 1, a way", y.can(0), 1);
        due.is("8 law 1, no way", y.can(1), 0);
        due.is("8 law 1, no door", Due.told("law 1;lamp 0 0 9;person 0 0 0 0;").can(0), 0);
        due.is("8 law 1, on a door", Due.told("law 1;door 0 0;lamp 0 0 0;person 0 0 0 0;").can(0), 1);
        due.is("8 law 1, a dark door",
                Due.told("hall 2 1;law 1;door 1 0;lamp 0 0 0;person 0 0 0 0;").can(0), 0);
        due.is("8 law 1, two lamps make a way",
                Due.told("hall 4 1;law 1;door 3 0;lamp 0 0 1;lamp 3 0 1;person 0 0 0 0;").can(0), 1);
        due.is("8 law 1, walls in the way",
                Due.told("hall 3 1;wall 1 0;law 1;door 2 0;lamp 0 0 9;lamp 2 0 9;person 0 0 0 0;").can(0), 0);
        due.is("8 no lamps", Due.told("person 0 0 0 0;").can(0), 0);
    }

    private static void leaves() {
        DarkLeavers x = Due.told(ROW);
        due.is("9 no person", x.leaves(2, 0), -1);
        due.is("9 no lamp", x.leaves(0, 2), -1);
        due.is("9 below", x.leaves(-1, 0), -1);
        due.is("9 lamp below", x.leaves(0, -1), -1);
        due.is("9 leaves", x.leaves(1, 0), 1);
        due.is("9 left", x.leaves(1, 1), -2);
        due.is("9 left, no lamp", x.leaves(1, 2), -1);
        due.is("9 can't", x.leaves(0, 1), -2);
        due.is("9 refused", x.count(4), 1);
        due.is("9 lamp 0 is out", x.lamp(0, 2), 0);
        due.is("9 lamp 1 is lit", x.lamp(1, 2), 1);
        DarkLeavers y = Due.told(SIX);
        y.leaves(5, 0);
        due.is("9 out", y.leaves(0, 0), -2);
        due.is("9 nothing changed", y.person(0, 3), -9);
        for (int p = 0; p < 5; p++) {
            due.is("9 " + p, y.leaves(p, 5 - p), p + 2);
        }
        due.is("9 all dark", y.cell(0, 2), 0);
    }

    private static void undo() {
        DarkLeavers x = Due.told(SIX);
        due.is("10 none", x.undo(), -2);
        x.leaves(3, 1);
        x.leaves(2, 4);
        due.is("10 the latest", x.undo(), 1);
        due.is("10 it is there", x.person(2, 3), -9);
        due.is("10 its lamp is lit", x.lamp(4, 2), 1);
        due.is("10 the other left", x.person(3, 3), 0);
        due.is("10 the other lamp is out", x.lamp(1, 2), 0);
        due.is("10 first", x.undo(), 0);
        due.is("10 all lit", x.count(3), 6);
        due.is("10 none more", x.undo(), -2);
    }

    private static void most() {
        due.is("11 all", Due.told(SIX).most(), 6);
        due.is("11 two", Due.told(ROW).most(), 2);
        due.is("11 more people than lamps",
                Due.told("lamp 0 0 9;person 0 0 0 0;person 1 0 0 0;").most(), 1);
        due.is("11 one lamp too little",
                Due.told("hall 2 1;lamp 0 0 0;lamp 1 0 0;person 0 0 0 0;person 0 0 0 0;person 1 0 0 0;").most(), 2);
        due.is("11 by law", Due.told("law 1;lamp 0 0 9;person 0 0 0 0;").most(), 0);
        DarkLeavers x = Due.told(SIX);
        x.leaves(0, 0);
        due.is("11 from now", x.most(), 5);
        due.is("11 nothing is changed", x.count(4), 1);
    }

    private static void order() {
        DarkLeavers x = Due.told(ROW);
        due.is("12 first", x.order(0, 0), 0);
        due.is("12 its lamp", x.order(0, 1), 0);
        due.is("12 second", x.order(1, 0), 1);
        due.is("12 its lamp", x.order(1, 1), 1);
        due.is("12 not so many", x.order(2, 0), -5);
        due.is("12 not so many", x.order(MAX, 1), -5);
        due.is("12 k below", x.order(-1, 0), -1);
        due.is("12 k far below", x.order(MIN, 1), -1);
        due.is("12 what 2", x.order(0, 2), -1);
        due.is("12 what -1", x.order(0, -1), -1);
        due.is("12 bad ahead", x.order(9, 2), -1);
        // Lamp 0 is person 1's, so person 0 puts out lamp 1.
        DarkLeavers y = Due.told("hall 2 1;lamp 1 0 0;lamp 0 0 0;person 0 0 0 0;person 1 0 0 0;");
        due.is("12 y first", y.order(0, 0), 0);
        due.is("12 y its lamp", y.order(0, 1), 1);
        due.is("12 y second", y.order(1, 0), 1);
        due.is("12 y its lamp", y.order(1, 1), 0);
        DarkLeavers z = Due.told("hall 3 1;lamp 1 0 0;lamp 0 0 0;lamp 2 0 0;person 0 0 0 0;person 1 0 0 0;person 2 0 0 0;");
        due.is("12 z all", z.most(), 3);
        due.is("12 z lamp", z.order(0, 1), 1);
        DarkLeavers w = Due.told("hall 3 1;lamp 1 0 0;lamp 0 0 0;lamp 2 0 0;lamp 0 0 0;person 0 0 0 0;person 1 0 0 0;person 2 0 0 0;");
        due.is("12 w all", w.most(), 3);
        due.is("12 w first", w.order(0, 1), 1);
        w.leaves(0, 3);
        due.is("12 from now", w.order(0, 0), 1);
        due.is("12 from now, lamp", w.order(0, 1), 0);
        due.is("12 from now, second", w.order(1, 0), 2);
        due.is("12 from now, none more", w.order(2, 0), -5);
        turnByTurn();
    }

    private static void turnByTurn() {
        DarkLeavers x = Due.told("hall 3 1;lamp 1 0 0;lamp 0 0 9;lamp 2 0 0;person 0 0 0 0;person 1 0 0 0;person 2 0 0 0;");
        int[] want = {0, 0, 1, 1, 2, 2};
        for (int turn = 0; turn < 3; turn++) {
            due.is("12 turn " + turn, x.order(turn, 0), want[2 * turn]);
            due.is("12 turn lamp " + turn, x.order(turn, 1), want[2 * turn + 1]);
        }
        // People first of all would give 0, 1, 2; turn by turn lamp 0 goes first, and person 1 stays.
        DarkLeavers y = Due.told("hall 3 1;lamp 1 0 0;lamp 0 0 0;lamp 2 0 0;person 0 0 0 0;person 1 0 0 0;"
                + "person 2 0 0 0;person 2 0 0 0;");
        int[] then = {0, 0, 2, 1, 3, 2};
        for (int turn = 0; turn < 3; turn++) {
            due.is("12 then " + turn, y.order(turn, 0), then[2 * turn]);
            due.is("12 then lamp " + turn, y.order(turn, 1), then[2 * turn + 1]);
        }
        // Three lamps, two can leave: lamp 0 goes at once, so that person 2 is the second.
        DarkLeavers z = Due.told("hall 3 1;lamp 1 0 0;lamp 2 0 0;person 2 0 0 0;person 1 0 0 0;person 2 0 0 0;");
        due.is("12 z most", z.most(), 2);
        due.is("12 z first", z.order(0, 0), 0);
        due.is("12 z lamp 0 at the first turn", z.order(0, 1), 0);
        due.is("12 z so person 2, not 1", z.order(1, 0), 2);
        due.is("12 z lamp 1 then", z.order(1, 1), 1);
    }

    private static void rows() {
        due.is("13 six", Due.told(SIX).rows(), 518400);
        due.is("13 two", Due.told(ROW).rows(), 2);
        due.is("13 not all", Due.told("lamp 0 0 9;person 0 0 0 0;person 1 0 0 0;").rows(), 0);
        due.is("13 nobody", Due.told("lamp 0 0 9;").rows(), 1);
        due.is("13 one of two lamps", Due.told("lamp 0 0 9;lamp 1 1 0;person 0 0 0 0;").rows(), 2);
        DarkLeavers x = Due.told(SIX);
        x.leaves(0, 0);
        due.is("13 from now", x.rows(), 14400);
    }

    private static void bar() {
        due.is("14 none", new DarkLeavers().bar(), -9);
        due.is("14 dark already", Due.told("lamp 0 0 0;person 1 0 0 0;").bar(), -9);
        due.is("14 one", Due.told(ROW).bar(), 1);
        due.is("14 the one that counts",
                Due.told("hall 2 1;lamp 0 0 0;lamp 0 0 0;lamp 1 0 0;person 1 0 0 0;").bar(), 4);
        due.is("14 two of three",
                Due.told("hall 2 1;lamp 0 0 0;lamp 1 0 0;lamp 1 0 0;person 1 0 0 0;").bar(), 6);
        DarkLeavers x = Due.told("hall 1 1;lamp 0 0 0;lamp 0 0 0;lamp 0 0 0;person 0 0 0 0;person 0 0 0 0;");
        due.is("14 the least bits", x.bar(), 3);
        x.leaves(1, 0);
        due.is("14 of those that are lit", x.bar(), 6);
        due.is("14 nothing is changed", x.count(3), 2);
    }

    private static void grief() {
        due.is("15 nobody", new DarkLeavers().grief(), 0);
        due.is("15 not all", Due.told("person 0 0 0 0;").grief(), -9);
        due.is("15 as wished", Due.told(SIX).grief(), 0);
        // Either can be first: |2 - 0| + |0 - 1| = 3, or |0 - 0| + |2 - 1| = 1.
        due.is("15 the least", Due.told(ROW).grief(), 1);
        // Person 1, who wishes to be late, must be first, for its way needs both lamps.
        due.is("15 forced", Due.told("hall 4 1;law 1;door 0 0;lamp 0 0 1;lamp 3 0 1;"
                + "person 0 0 0 0;person 3 0 9 1;").grief(), 10);
        DarkLeavers x = Due.told("lamp 0 0 9;lamp 0 0 9;person 0 0 0 0;person 0 0 9 0;");
        due.is("15 both", x.grief(), 8);
        x.leaves(1, 0);
        due.is("15 those who left count ahead", x.grief(), 1);
    }

    private static void game() {
        due.is("16 nobody", new DarkLeavers().game(), 1);
        due.is("16 six, side 1 is last", Due.told(SIX).game(), 1);
        due.is("16 side 0 alone", Due.told("lamp 0 0 9;lamp 0 0 9;person 0 0 0 0;").game(), 0);
        due.is("16 side 1 alone", Due.told("lamp 0 0 9;lamp 0 0 9;person 0 0 0 1;").game(), 1);
        // Side 0 takes its own lamp and side 1 leaves; or it takes lamp 1, and side 1 can't.
        DarkLeavers x = Due.told(ROW);
        due.is("16 side 0 puts out the other's lamp", x.game(), 0);
        due.is("16 nothing is changed", x.count(4), 0);
        DarkLeavers y = Due.told(SIX);
        y.leaves(1, 0);
        due.is("16 side 0 is first from now", y.game(), 0);
    }

    private static void worth() {
        DarkLeavers x = Due.told("hall 3 1;wall 1 0;lamp 0 0 0;person 0 0 0 0;person 2 0 0 0;");
        due.is("17 none yet", x.most(), 1);
        due.is("17 by the other", x.worth(2, 0), 1);
        due.is("17 by the same: one lamp more to put out", x.worth(0, 9), 0);
        due.is("17 wall", x.worth(1, 0), -1);
        due.is("17 cell 3", x.worth(3, 0), -1);
        due.is("17 cell -1", x.worth(-1, 0), -1);
        due.is("17 reach 10", x.worth(0, 10), -1);
        due.is("17 reach -1", x.worth(0, -1), -1);
        due.is("17 no lamp came", x.count(1), 1);
        due.is("17 nor light", x.cell(2, 2), 0);
        due.is("17 most as before", x.most(), 1);
        DarkLeavers six = Due.told("lamp 0 0 0;lamp 0 0 0;lamp 0 0 0;lamp 0 0 0;lamp 0 0 0;lamp 0 0 0;"
                + "person 0 0 0 0;person 0 0 0 0;person 3 2 0 0;");
        due.is("17 a seventh", six.worth(0, 5), 1);
        due.is("17 too short", six.worth(0, 4), 0);
        due.is("17 most beside", six.most(), 2);
        six.leaves(0, 5);
        due.is("17 from now", six.worth(11, 0), 1);
        due.is("17 all by law 1", Due.told("law 1;door 0 0;person 0 0 0 0;").worth(1, 1), 1);
    }

    private static void saw() {
        DarkLeavers x = Due.told("hall 2 1;wall 1 0;");
        due.is("18 after -1", x.saw(-1, 0, 0), -1);
        due.is("18 after 7", x.saw(7, 0, 0), -1);
        due.is("18 wall", x.saw(0, 1, 0), -1);
        due.is("18 cell 2", x.saw(0, 2, 0), -1);
        due.is("18 cell -1", x.saw(0, -1, 0), -1);
        due.is("18 light 2", x.saw(0, 0, 2), -1);
        due.is("18 light -1", x.saw(0, 0, -1), -1);
        due.is("18 nothing yet", x.count(6), 0);
        for (int i = 1; i <= 8; i++) {
            due.is("18 the same again counts " + i, x.saw(6, 0, i & 1), i);
        }
        due.is("18 full", x.saw(0, 0, 0), -3);
        due.is("18 bad ahead of full", x.saw(0, 1, 0), -1);
        due.is("18 eight", x.count(6), 8);
    }

    private static void forget() {
        DarkLeavers x = Due.told(ROW);
        due.is("19 nothing", x.forget(), 0);
        x.saw(0, 0, 0);
        x.saw(0, 0, 1);
        due.is("19 fits none", x.fits(), 0);
        due.is("19 two", x.forget(), 2);
        due.is("19 nothing now", x.count(6), 0);
        due.is("19 all fit", x.fits(), 2);
        due.is("19 from the beginning", x.saw(1, 0, 1), 1);
    }

    private static void fits() {
        DarkLeavers x = Due.told(ROW);
        due.is("20 all", x.fits(), 2);
        x.saw(1, 0, 0);
        due.is("20 lamp 0 was out after one", x.fits(), 1);
        x.saw(2, 3, 0);
        due.is("20 all dark at the end", x.fits(), 1);
        x.leaves(1, 1);
        due.is("20 from the beginning, not from now", x.fits(), 1);
        x.saw(0, 2, 1);
        due.is("20 never light", x.fits(), 0);
        x.forget();
        x.saw(3, 2, 0);
        due.is("20 after more than there are people", x.fits(), 0);
        DarkLeavers y = Due.told("lamp 0 0 9;lamp 0 0 0;person 0 0 0 0;");
        y.saw(1, 11, 1);
        due.is("20 lamps may stay", y.fits(), 1);
        y.saw(1, 0, 0);
        due.is("20 against one another", y.fits(), 0);
        DarkLeavers z = new DarkLeavers();
        z.saw(0, 0, 0);
        due.is("20 nobody, dark", z.fits(), 1);
        z.saw(0, 1, 1);
        due.is("20 nobody, light", z.fits(), 0);
        due.is("20 six", Due.told(SIX).fits(), 518400);
        due.is("20 not all can leave", Due.told("person 0 0 0 0;").fits(), 0);
    }

    private static void who() {
        DarkLeavers x = Due.told(ROW);
        // Person 1 sits by lamp 1, so lamp 0 goes by person 0 in every row, and lamp 1 by person 1.
        due.is("21 lamp 0", x.who(0), 1);
        due.is("21 lamp 1", x.who(1), 2);
        due.is("21 lamp 2", x.who(2), -1);
        due.is("21 lamp -1", x.who(-1), -1);
        DarkLeavers six = Due.told(SIX);
        for (int l = 0; l < 6; l++) {
            due.is("21 all " + l, six.who(l), 63);
        }
        six.saw(6, 0, 1);
        due.is("21 none", six.who(3), 0);
        DarkLeavers y = Due.told("hall 2 1;lamp 0 0 0;lamp 1 0 1;lamp 1 0 0;person 0 0 0 0;person 1 0 0 0;");
        y.saw(1, 1, 0);
        due.is("21 no row", y.who(0), 0);
        y.forget();
        y.saw(2, 0, 1);
        y.saw(2, 1, 0);
        // Lamp 0 stays: lamps 1 and 2 were put out, and person 1 needs one of them.
        due.is("21 stays lit", y.who(0), 0);
        due.is("21 either", y.who(1), 3);
        due.is("21 or", y.who(2), 3);
        y.saw(2, 1, 1);
        due.is("21 against one another", y.who(1), 0);
    }

    private static void mark() {
        DarkLeavers x = Due.told(SIX);
        x.leaves(0, 0);
        x.leaves(2, 1);
        // Person 3: wish 2, cell 3, side 1; two have left, four lamps are lit.
        int[] want = {2, 4, 6, 8, 3, 3};
        for (int kind = 0; kind < want.length; kind++) {
            due.is("22 kind " + kind, x.mark(kind, 3), want[kind]);
        }
        due.is("22 below 0", x.mark(4, 5), 0 + 4 - 11);
        due.is("22 one who left", x.mark(0, 0), 5);
        due.is("22 side 0", x.mark(5, 4), 1);
        due.is("22 kind 6", x.mark(6, 0), -1000000);
        due.is("22 kind -1", x.mark(-1, 0), -1000000);
        due.is("22 person 6", x.mark(0, 6), -1000000);
        due.is("22 person -1", x.mark(0, -1), -1000000);
    }

    private static void keepAndBack() {
        DarkLeavers x = Due.told(SIX);
        due.is("23 image 2", x.keep(2), -1);
        due.is("23 image -1", x.keep(-1), -1);
        due.is("24 image 2", x.back(2), -1);
        due.is("24 image -1", x.back(-1), -1);
        due.is("24 none was kept", x.back(0), -2);
        x.leaves(3, 2);
        x.leaves(1, 4);
        x.saw(1, 5, 0);
        due.is("23 kept", x.keep(0), 2);
        due.is("24 the other was not", x.back(1), -2);
        x.undo();
        x.leaves(0, 0);
        x.leaves(5, 5);
        x.forget();
        x.saw(2, 0, 1);
        x.saw(2, 1, 1);
        due.is("23 the other", x.keep(1), 3);
        x.mark(0, 0);
        x.type(32, 1);
        due.is("24 back", x.back(0), 2);
        due.is("24 who left", x.person(1, 3), 1);
        due.is("24 who is there", x.person(0, 3), -9);
        due.is("24 its lamp", x.lamp(4, 2), 0);
        due.is("24 lit", x.count(3), 4);
        due.is("24 seen", x.count(6), 1);
        due.is("24 the seen fits as it was", x.fits(), 0);
        due.is("24 the text is not kept", x.count(7), 1);
        due.is("24 the trace is not kept", x.trace(), 1);
        due.is("24 in what order", x.undo(), 1);
        due.is("24 in what order: 3 was first", x.person(3, 3), 0);
        due.is("24 again", x.back(0), 2);
        due.is("24 the other image", x.back(1), 3);
        due.is("24 its seen", x.count(6), 2);
        due.is("24 its last", x.person(5, 3), 2);
        due.is("23 kept anew", x.keep(0), 3);
        x.undo();
        due.is("24 as kept anew", x.back(0), 3);
        DarkLeavers y = Due.told(ROW);
        y.saw(1, 0, 0);
        y.keep(1);
        y.forget();
        y.saw(2, 3, 1);
        y.leaves(1, 1);
        due.is("24 other things seen", y.fits(), 0);
        y.back(1);
        due.is("24 what was seen, as it was", y.fits(), 1);
        due.is("24 who put it out", y.who(0), 1);
        due.is("24 person 1 can leave again", y.can(1), 1);
        y.leaves(1, 1);
        y.keep(0);
        y.undo();
        y.leaves(0, 0);
        y.back(0);
        y.undo();
        due.is("24 the lamp undone is the image's", y.lamp(1, 2), 1);
        due.is("24 so all are lit", y.count(3), 2);
    }

    private static void count() {
        DarkLeavers x = Due.told("hall 3 2;wall 0 0;law 1;door 1 0;lamp 1 0 9;lamp 1 1 9;person 2 0 1 1;");
        x.leaves(0, 1);
        x.saw(0, 1, 1);
        x.type(0, 3);
        int[] want = {6, 2, 1, 1, 1, 1, 1, 3};
        for (int what = 0; what < want.length; what++) {
            due.is("25 count " + what, x.count(what), want[what]);
        }
        due.is("25 what 8", x.count(8), -1);
        due.is("25 what -1", x.count(-1), -1);
    }

    private static void trace() {
        DarkLeavers x = Due.told(SIX);
        long[] want = {1, 12, 113, 1124, 11225, 111226};
        for (int kind = 0; kind < want.length; kind++) {
            x.mark(kind, 0);
            due.is("26 trace " + kind, x.trace(), want[kind]);
        }
        x.mark(6, 0);
        x.mark(3, 6);
        due.is("26 refused marks leave none", x.trace(), 111226);
        due.is("26 asking leaves none", x.trace(), 111226);
    }

    /** Every call takes any numbers and answers. */
    private static void wrongNumbers() {
        int[] odd = {MIN, MIN + 1, -1000000, -2, -1, 12, 13, 31, 32, 33, 64, 128, 4096, MAX};
        DarkLeavers x = Due.told(SIX);
        for (int a : odd) {
            due.is("cell " + a, x.cell(a, 0), -1);
            due.is("lamp " + a, x.lamp(a, 0), -1);
            due.is("person " + a, x.person(a, 0), -1);
            due.is("can " + a, x.can(a), -1);
            due.is("leaves " + a, x.leaves(a, 0), -1);
            due.is("leaves by " + a, x.leaves(0, a), -1);
            due.is("worth " + a, x.worth(a, 0), -1);
            due.is("worth reach " + a, x.worth(0, a), -1);
            due.is("saw " + a, x.saw(a, 0, 0), -1);
            due.is("saw cell " + a, x.saw(0, a, 0), -1);
            due.is("saw light " + a, x.saw(0, 0, a), -1);
            due.is("who " + a, x.who(a), -1);
            due.is("mark " + a, x.mark(a, 0), -1000000);
            due.is("mark of " + a, x.mark(0, a), -1000000);
            due.is("keep " + a, x.keep(a), -1);
            due.is("back " + a, x.back(a), -1);
            due.is("count " + a, x.count(a), -1);
            due.is("type " + a, x.type(0, a), -1);
            due.is("order what " + a, x.order(0, a), -1);
        }
        due.is("nothing changed", x.count(3) + x.count(4) + x.count(6) + x.count(7), 6);
    }
}
