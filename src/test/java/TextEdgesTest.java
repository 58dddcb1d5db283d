/**
 * How large each thing in a text may be, what can't stand where in it, and which place is its FAULT: for each sentence
 * the last number that may be and the first that may not. A text with a FAULT is told to an object in which much has
 * been done, and nothing of it may change.
 */
public final class TextEdgesTest {
    private static final String[] WORDS = {"hall", "wall", "door", "lamp", "person", "law"};
    private static final String[] ITEMS = {"hall 1 1;", "wall 0 0;", "door 0 0;", "lamp 0 0 0;", "person 0 0 0 0;", "law 0;"};
    // As numbers of 32 or 64 bits, cut short, some of these would be 0 or 1.
    private static final String[] TOO_LARGE = {"100", "101", "199", "255", "256", "257", "1000", "65536", "65537",
        "2147483648", "4294967296", "4294967297", "18446744073709551616", "18446744073709551617"};
    private static final Due due = new Due("TextEdgesTest");

    public static void main(String[] args) {
        wideAndHigh();
        numberedRowByRow();
        fourAndThreeAtFirst();
        placesInTheHall();
        sixLamps();
        reach();
        litAtFirst();
        sixPeople();
        wish();
        side();
        law();
        threeHundredBytes();
        blanks();
        everyByteAtTheBeginning();
        everyByteBehindAnItem();
        everyByteBehindAWord();
        everyByteForANumber();
        everyByteBehindANumber();
        words();
        tooLargeNumbers();
        zeroAhead();
        endedBySemicolon();
        numbersOfEachItem();
        endsTooEarly();
        hallFirstOfAll();
        wallAhead();
        lawOnce();
        nothingButAWallOnAWall();
        wallsAndDoorsAgain();
        whatMayShareACell();
        theFirstFault();
        emptyText();
        nothingOfTheHallsBefore();
        readAnew();
        aFaultCanBeMended();
        due.end();
    }

    private static DarkLeavers tells(String text, int items) {
        DarkLeavers x = States.BUSY.make();
        x.clear();
        Due.typeAll(x, text);
        due.is("items of '" + text + "'", x.hall(), items);
        due.is("bytes behind '" + text + "'", x.count(7), 0);
        return x;
    }

    private static void fault(String text, int place) {
        DarkLeavers x = States.BUSY.make();
        DarkLeavers twin = States.BUSY.make();
        x.clear();
        twin.clear();
        Due.typeAll(x, text);
        Due.typeAll(twin, text);
        due.is("hall of '" + text + "'", x.hall(), -10 - place);
        String one = Whole.of(x);
        String other = Whole.of(twin);
        due.holds("'" + text + "' changed something: " + Whole.difference(one, other), one.equals(other));
    }

    // "THE HALL is WIDE (1 .. 4) by HIGH (1 .. 3) CELLS"
    private static void wideAndHigh() {
        int[] sizes = {0, 1, 2, 3, 4, 5, 6, 9, 10, 11, 99};
        for (int wide : sizes) {
            for (int high : sizes) {
                String text = "hall " + wide + " " + high + ";";
                if (wide < 1 || wide > 4) {
                    fault(text, 5);
                } else if (high < 1 || high > 3) {
                    fault(text, 7);
                } else {
                    due.is("cells of " + text, tells(text, 1).count(0), wide * high);
                }
            }
        }
    }

    // "numbered row by row (WIDE times y and x)"
    private static void numberedRowByRow() {
        for (int wide = 1; wide <= 4; wide++) {
            for (int high = 1; high <= 3; high++) {
                for (int c = 0; c < wide * high; c++) {
                    oneCell(wide, high, c);
                }
            }
        }
    }

    private static void oneCell(int wide, int high, int c) {
        String spot = " " + c % wide + " " + c / wide;
        String size = "hall " + wide + " " + high + ";";
        DarkLeavers x = tells(size + "door" + spot + ";lamp" + spot + " 0;person" + spot + " 0 0;", 4);
        DarkLeavers walled = tells(size + "wall" + spot + ";", 2);
        due.is("lamp in " + c + " of " + size, x.lamp(0, 0), c);
        due.is("it shines there alone", x.lamp(0, 3), 1 << c);
        due.is("person in " + c + " of " + size, x.person(0, 0), c);
        for (int other = 0; other < wide * high; other++) {
            int here = other == c ? 1 : 0;
            due.is("door in " + other + " of " + size, x.cell(other, 1), here);
            due.is("light in " + other + " of " + size, x.cell(other, 2), here);
            due.is("wall in " + other + " of " + size, walled.cell(other, 0), here);
        }
        due.is("behind the last of " + size, x.cell(wide * high, 0), -1);
        due.is("ahead of the first of " + size, x.cell(-1, 0), -1);
    }

    // "(4 and 3 at first)": of a text that tells no hall, too, whatever stood there before.
    private static void fourAndThreeAtFirst() {
        due.is("cells at first", new DarkLeavers().count(0), 12);
        due.is("the last cell", tells("lamp 3 2 0;", 1).lamp(0, 0), 11);
        fault("lamp 4 2 0;", 5);
        fault("lamp 3 3 0;", 7);
        DarkLeavers x = tells("hall 1 1;", 1);
        due.is("one cell", x.count(0), 1);
        Due.typeAll(x, "door 3 2;");
        due.is("a hall that is not told", x.hall(), 1);
        due.is("twelve cells", x.count(0), 12);
        due.is("its last", x.cell(11, 1), 1);
    }

    // "a NUMBER beyond what it may be, too": X below WIDE, Y below HIGH, for each that comes on a CELL.
    private static void placesInTheHall() {
        String[] rests = {"wall", "", "door", "", "lamp", " 0", "person", " 0 0"};
        for (int wide = 1; wide <= 4; wide++) {
            for (int high = 1; high <= 3; high++) {
                for (int i = 0; i < rests.length; i += 2) {
                    String begin = "hall " + wide + " " + high + ";" + rests[i] + " ";
                    String last = begin + (wide - 1) + " " + (high - 1) + rests[i + 1] + ";";
                    tells(last, 2);
                    fault(begin + wide + " " + (high - 1) + rests[i + 1] + ";", begin.length());
                    fault(begin + (wide - 1) + " " + high + rests[i + 1] + ";", begin.length() + 2);
                    fault(begin + wide + " " + high + rests[i + 1] + ";", begin.length());
                    fault(begin + "99 0" + rests[i + 1] + ";", begin.length());
                    fault(begin + "0 99" + rests[i + 1] + ";", begin.length() + 2);
                }
            }
        }
    }

    // "LAMPS 0 .. (6 at most)", "a seventh lamp": that word is the FAULT.
    private static void sixLamps() {
        for (int lamps = 0; lamps <= 6; lamps++) {
            DarkLeavers x = tells("lamp 0 0 0;".repeat(lamps), lamps);
            due.is("lamps", x.count(1), lamps);
            due.is("behind the last lamp", x.lamp(lamps, 0), -1);
            if (lamps > 0) {
                due.is("the last lamp", x.lamp(lamps - 1, 0), 0);
            }
        }
        String six = "lamp 0 0 0;".repeat(6);
        fault(six + "lamp 0 0 0;", 66);
        fault(six + "  lamp", 68);
        fault(six + "lamp 9 9 9;", 66);
        fault(six + "person 0 0 0 0;law 1;lamp 0 0 0;", 87);
        tells("lamp 0 0 0;".repeat(5) + "person 0 0 0 0;lamp 0 0 0;", 7);
    }

    // "with a REACH (0 .. 9)"
    private static void reach() {
        for (int reach = 0; reach <= 99; reach++) {
            if (reach <= 9) {
                due.is("reach", tells("lamp 0 0 " + reach + ";", 1).lamp(0, 1), reach);
            } else {
                fault("lamp 0 0 " + reach + ";", 9);
            }
        }
    }

    // "LIT at first"
    private static void litAtFirst() {
        DarkLeavers x = tells("lamp 0 0 0;".repeat(6), 6);
        for (int l = 0; l < 6; l++) {
            due.is("lit at first " + l, x.lamp(l, 2), 1);
        }
        due.is("all lit", x.count(3), 6);
    }

    // "PEOPLE 0 .. (6 at most)", "a seventh .. person": that word is the FAULT.
    private static void sixPeople() {
        for (int people = 0; people <= 6; people++) {
            DarkLeavers x = tells("person 0 0 0 0;".repeat(people), people);
            due.is("people", x.count(2), people);
            due.is("behind the last one", x.person(people, 0), -1);
            if (people > 0) {
                due.is("the last one", x.person(people - 1, 0), 0);
            }
        }
        String six = "person 0 0 0 0;".repeat(6);
        fault(six + "person 0 0 0 0;", 90);
        fault(six + " person", 91);
        fault(six + "person 9 9 99 9;", 90);
        fault(six + "lamp 0 0 0;law 1;person 0 0 0 0;", 107);
        tells("person 0 0 0 0;".repeat(5) + "lamp 0 0 0;person 0 0 0 0;", 7);
        due.is("six and six", tells(six + "lamp 0 0 0;".repeat(6), 12).count(2), 6);
    }

    // "with a WISH (0 .. 9)"
    private static void wish() {
        for (int wish = 0; wish <= 99; wish++) {
            if (wish <= 9) {
                due.is("wish", tells("person 0 0 " + wish + " 0;", 1).person(0, 1), wish);
            } else {
                fault("person 0 0 " + wish + " 0;", 11);
            }
        }
    }

    // "on a SIDE (0, 1)"
    private static void side() {
        for (int side = 0; side <= 99; side++) {
            if (side <= 1) {
                due.is("side", tells("person 0 0 0 " + side + ";", 1).person(0, 2), side);
            } else {
                fault("person 0 0 0 " + side + ";", 13);
            }
        }
    }

    // "LAW: 0, 1 (0 at first)": of a text that tells none, too, whatever held before.
    private static void law() {
        for (int law = 0; law <= 99; law++) {
            if (law <= 1) {
                due.is("law", tells("law " + law + ";", 1).count(5), law);
            } else {
                fault("law " + law + ";", 4);
            }
        }
        due.is("law at first", new DarkLeavers().count(5), 0);
        DarkLeavers x = tells("law 1;", 1);
        Due.typeAll(x, "door 0 0;");
        due.is("no law is told", x.hall(), 1);
        due.is("law 0 again", x.count(5), 0);
    }

    // "a text (300 bytes at most)": the last byte is read as any other.
    private static void threeHundredBytes() {
        String doors = "door 0 0;".repeat(33);
        tells("   " + doors, 33);
        tells(doors + "   ", 33);
        tells(" ".repeat(300), 0);
        tells(" ".repeat(294) + "law 1;", 1);
        fault(doors + "  ;", 299);
        fault(doors + "law", 300);
        fault(doors + "la ", 297);
        fault("0".repeat(300), 0);
        fault("9".repeat(300), 0);
        fault("a".repeat(300), 0);
        fault("law " + "1".repeat(296), 4);
        fault("law " + "0".repeat(296), 4);
        fault(";".repeat(300), 0);
        fault(" ".repeat(299) + ";", 299);
        fault("law 1;" + " ".repeat(293) + "x", 299);
    }

    // "blanks (32) between TOKENS": as many as you like; no other byte is a blank.
    private static void blanks() {
        tells("  law   1  ;  ", 1);
        tells("lamp 0 0 0 ;person 0 0 0 0 ; law 0 ;", 3);
        due.is("a lamp far apart", tells("   lamp     3      2       9        ;", 1).lamp(0, 0), 11);
        fault("   law   2  ;  ", 9);
        fault(" 0", 1);
        for (int octet : new int[] {0, 9, 10, 11, 12, 13, 31, 33, 127, 133, 160, 255}) {
            char sign = (char) octet;
            fault("law" + sign + "1;", 3);
            fault(sign + "law 1;", 0);
            fault("law 1;" + sign, 6);
            fault("law 1" + sign + ";", 5);
        }
    }

    private static boolean isLetter(int octet) {
        return octet >= 97 && octet <= 122;
    }

    private static boolean isDigit(int octet) {
        return octet >= 48 && octet <= 57;
    }

    // "of a byte that begins none .. that TOKEN's"; a NUMBER, a ; and a word of one letter can't stand there.
    private static void everyByteAtTheBeginning() {
        for (int octet = 0; octet < 256; octet++) {
            String text = String.valueOf((char) octet);
            if (octet == 32) {
                tells(text, 0);
            } else {
                fault(text, 0);
            }
        }
    }

    private static void everyByteBehindAnItem() {
        for (int octet = 0; octet < 256; octet++) {
            String text = "law 1;" + (char) octet;
            if (octet == 32) {
                tells(text, 1);
            } else {
                fault(text, 6);
            }
        }
    }

    private static void everyByteBehindAWord() {
        for (int octet = 0; octet < 256; octet++) {
            String text = "law" + (char) octet + " 1;";
            if (octet == 32) {
                tells(text, 1);
            } else if (isLetter(octet)) {
                fault(text, 0);
            } else if (octet == 48 || octet == 49) {
                fault(text, 5);
            } else {
                fault(text, 3);
            }
        }
    }

    private static void everyByteForANumber() {
        for (int octet = 0; octet < 256; octet++) {
            String text = "lamp 0 0 " + (char) octet + ";";
            if (isDigit(octet)) {
                due.is("reach of " + text, tells(text, 1).lamp(0, 1), octet - 48);
            } else {
                fault(text, octet == 32 ? 10 : 9);
            }
        }
    }

    private static void everyByteBehindANumber() {
        for (int octet = 0; octet < 256; octet++) {
            String text = "lamp 0 0 0" + (char) octet + ";";
            if (octet == 32) {
                tells(text, 1);
            } else if (octet == 59) {
                fault(text, 11);
            } else {
                fault(text, isDigit(octet) ? 9 : 10);
            }
        }
    }

    // "a word that is none of these"
    private static void words() {
        for (int i = 0; i < WORDS.length; i++) {
            String word = WORDS[i];
            String rest = ITEMS[i].substring(word.length());
            tells(ITEMS[i], 1);
            fault(word.substring(1) + rest, 0);
            fault(word.substring(0, word.length() - 1) + rest, 0);
            fault(word.toUpperCase() + rest, 0);
            fault(word.substring(0, 1).toUpperCase() + word.substring(1) + rest, 0);
            fault(word + word + rest, 0);
            fault(word.substring(0, 1) + " " + word.substring(1) + rest, 0);
            for (char letter = 'a'; letter <= 'z'; letter++) {
                fault(word + letter + rest, 0);
                fault(letter + word + rest, 0);
                oneLetterOff(word, letter, rest);
            }
        }
    }

    private static void oneLetterOff(String word, char letter, String rest) {
        for (int at = 0; at < word.length(); at++) {
            String off = word.substring(0, at) + letter + word.substring(at + 1);
            boolean told = java.util.List.of(WORDS).contains(off);
            if (!told) {
                fault(off + rest, 0);
            }
        }
    }

    // "a NUMBER above 99 .. that TOKEN's": at every place of every item.
    private static void tooLargeNumbers() {
        for (String number : TOO_LARGE) {
            numberEverywhere(number);
        }
    }

    // "or with a 0 ahead of others"
    private static void zeroAhead() {
        for (String number : new String[] {"00", "01", "02", "09", "000", "001", "010", "0000000000000001"}) {
            numberEverywhere(number);
        }
    }

    private static void numberEverywhere(String number) {
        fault("hall " + number + " 1;", 5);
        fault("hall 1 " + number + ";", 7);
        fault("law " + number + ";", 4);
        fault("lamp 0 0 " + number + ";", 9);
        fault("person 0 0 " + number + " 0;", 11);
        fault("person 0 0 0 " + number + ";", 13);
        for (int i = 1; i < 5; i++) {
            String[] parts = ITEMS[i].split(" ", 4);
            String rest = parts.length == 4 ? " " + parts[3] : ";";
            fault(parts[0] + " " + number + " 0" + rest, parts[0].length() + 1);
            fault(parts[0] + " 0 " + number + rest, parts[0].length() + 3);
        }
    }

    // "ITEMS, each ended by ;"
    private static void endedBySemicolon() {
        for (String item : ITEMS) {
            String open = item.substring(0, item.length() - 1);
            fault(open, open.length());
            fault(open + "  ", open.length() + 2);
            fault(open + " law 1;", open.length() + 1);
            fault(open + " x;", open.length() + 1);
            fault(item + ";", item.length());
            fault(item + " ; ", item.length() + 1);
        }
        fault(";", 0);
        fault("  ;law 1;", 2);
    }

    // "hall W H; wall X Y; door X Y; lamp X Y R; person X Y T S; law K": so many numbers and no other.
    private static void numbersOfEachItem() {
        for (String item : ITEMS) {
            String open = item.substring(0, item.length() - 1);
            fault(open + " 0;", open.length() + 1);
            fault(open + " 1;", open.length() + 1);
            for (int end = open.lastIndexOf(' '); end > 0; end = open.lastIndexOf(' ', end - 1)) {
                fault(open.substring(0, end) + ";", end);
                fault(open.substring(0, end) + " law", end + 1);
            }
        }
    }

    // "the text's length, if it ends too early": a text cut at every place.
    private static void endsTooEarly() {
        String text = " hall 4 3 ;wall 1 1;law 1;door 0 0;lamp 0 0 1;person 0 0 3 0;";
        for (int end = 0; end < text.length(); end++) {
            String cut = text.substring(0, end);
            boolean inWord = end > 0 && isLetter(text.charAt(end - 1)) && isLetter(text.charAt(end));
            int items = (int) cut.chars().filter(sign -> sign == ';').count();
            if (inWord) {
                int begin = end;
                while (begin > 0 && isLetter(text.charAt(begin - 1))) {
                    begin--;
                }
                fault(cut, begin);
            } else if (cut.isBlank() || cut.endsWith(";")) {
                tells(cut, items);
            } else {
                fault(cut, end);
            }
        }
        tells(text, 6);
    }

    // "hall W H (the first of all, if it is told)", "a hall behind another ITEM"
    private static void hallFirstOfAll() {
        for (String item : ITEMS) {
            fault(item + "hall 1 1;", item.length());
            fault(item + " hall", item.length() + 1);
            fault(item + "hall 9 9;", item.length());
        }
        fault("hall 4 3;wall 0 0;door 1 0;lamp 1 0 0;person 1 0 0 0;law 1;hall 4 3;", 59);
        tells("   hall 2 2;", 1);
        DarkLeavers x = tells("hall 2 2;", 1);
        Due.typeAll(x, "hall 2 1;");
        due.is("a hall behind another text's", x.hall(), 1);
        due.is("two cells", x.count(0), 2);
    }

    // "wall X Y (ahead of doors, lamps, people)", "a wall behind a door, a lamp or a person"
    private static void wallAhead() {
        for (String item : new String[] {"door 0 0;", "lamp 0 0 0;", "person 0 0 0 0;"}) {
            fault(item + "wall 1 1;", item.length());
            fault(item + "law 1;wall 1 1;", item.length() + 6);
            fault("wall 1 1;" + item + "wall 1 1;", 9 + item.length());
            fault(item + "wall", item.length());
        }
        tells("hall 4 3;wall 0 0;", 2);
        fault("law 0;wall 0 0;law", 15);
        tells("law 0;wall 0 0;wall 1 0;", 3);
        tells("hall 2 2;wall 0 0;law 1;wall 1 0;door 0 1;", 5);
        DarkLeavers x = tells("door 0 0;lamp 0 0 0;person 0 0 0 0;", 3);
        Due.typeAll(x, "wall 0 0;");
        due.is("a wall behind another text's door", x.hall(), 1);
    }

    // "law K (once at most)", "law told again": wherever it stands.
    private static void lawOnce() {
        for (String item : ITEMS) {
            if (!item.startsWith("law") && !item.startsWith("hall")) {
                tells("law 1;" + item, 2);
            }
            if (!item.startsWith("law")) {
                due.is("law behind", tells(item + "law 1;", 2).count(5), 1);
            }
        }
        fault("law 0;law 0;", 6);
        fault("law 1;law 1;", 6);
        fault("law 1;law 0;", 6);
        fault("law 0;law 9;", 6);
        fault("law 0;law", 6);
        fault("hall 1 1;law 0;lamp 0 0 0; law 1;", 27);
        DarkLeavers x = tells("law 0;", 1);
        Due.typeAll(x, "law 1;");
        due.is("law of another text", x.hall(), 1);
        due.is("it is 1", x.count(5), 1);
    }

    // "Nothing but a WALL comes on a WALL", "a Y by which it stands on a WALL"
    private static void nothingButAWallOnAWall() {
        String[] rests = {"door", "", "lamp", " 0", "person", " 0 0"};
        for (int c = 0; c < 12; c++) {
            String wall = "wall " + c % 4 + " " + c / 4 + ";";
            for (int i = 0; i < rests.length; i += 2) {
                for (int other = 0; other < 12; other++) {
                    String text = wall + rests[i] + " " + other % 4 + " " + other / 4 + rests[i + 1] + ";";
                    if (other == c) {
                        fault(text, wall.length() + rests[i].length() + 3);
                    } else {
                        tells(text, 2);
                    }
                }
            }
        }
        fault("wall 0 0;lamp 0 0 10;", 16);
        fault("wall 0 0;person 0 0 10 2;", 18);
        fault("wall 0 0;lamp 0 0", 16);
        fault("wall 3 2;lamp 4 2 0;", 14);
    }

    // "a wall, a door told again: well"
    private static void wallsAndDoorsAgain() {
        DarkLeavers x = tells("wall 0 0;wall 0 0;wall 0 0;door 1 0;door 1 0;", 5);
        due.is("the wall", x.cell(0, 0), 1);
        due.is("the door", x.cell(1, 1), 1);
        due.is("no other", x.cell(1, 0) + x.cell(0, 1), 0);
        StringBuilder all = new StringBuilder();
        for (int c = 0; c < 12; c++) {
            all.append("wall ").append(c % 4).append(' ').append(c / 4).append(';');
        }
        DarkLeavers walls = tells(all.toString(), 12);
        for (int c = 0; c < 12; c++) {
            due.is("all walls " + c, walls.cell(c, 0), 1);
            due.is("no worth of a wall", walls.worth(c, 0), -1);
            due.is("no wall is seen", walls.saw(0, c, 0), -1);
        }
        due.is("cells, walls among them", walls.count(0), 12);
        DarkLeavers doors = tells(all.toString().replace("wall", "door"), 12);
        for (int c = 0; c < 12; c++) {
            due.is("all doors " + c, doors.cell(c, 1), 1);
        }
    }

    private static void whatMayShareACell() {
        DarkLeavers x = tells("hall 1 1;lamp 0 0 0;lamp 0 0 9;person 0 0 0 0;person 0 0 9 1;door 0 0;door 0 0;", 7);
        due.is("two lamps in it", x.count(1), 2);
        due.is("two people in it", x.count(2), 2);
        due.is("a door in it", x.cell(0, 1), 1);
    }

    // "FAULT: the place of the first byte of the first TOKEN that can't stand there"
    private static void theFirstFault() {
        fault("lamp 9 9 99;", 5);
        fault("lamp 0 9 99;", 7);
        fault("person 0 0 99 9;", 11);
        fault("law 9;hall 9 9;x", 4);
        fault("lamp 0 0 0;hall 1 1;law 2;", 11);
        fault("lamp x 0 0;", 5);
        fault("lamp lamp 0 0;", 5);
        fault("lamp ; 0 0;", 5);
        fault("hall hall 1;", 5);
        fault("x law 2;", 0);
        fault("law 1;? law 2;", 6);
        fault("lamp 0 0 1x;", 10);
        fault("lamp 0 0 -1;", 9);
        fault("lamp 0 0 +1;", 9);
        fault("lamp 0 0 1.5;", 10);
        fault("lamp 0,0 1;", 6);
    }

    // An empty text, and one of blanks, has no ITEMS and no FAULT: the hall is as at first.
    private static void emptyText() {
        for (String text : new String[] {"", " ", "        "}) {
            DarkLeavers x = tells(text, 0);
            due.is("the trace stays", x.trace(), 10101);
            int[] counts = {12, 0, 0, 0, 0, 0, 0, 0};
            for (int what = 0; what < 8; what++) {
                due.is("count " + what + " of an empty text", x.count(what), counts[what]);
            }
            due.is("no wall", x.cell(States.WALL, 0), 0);
            due.is("no door", x.cell(0, 1), 0);
            due.is("no image 0", x.back(0), -2);
            due.is("no image 1", x.back(1), -2);
            due.is("none to undo", x.undo(), -2);
        }
    }

    // "THE TEXT tells all": nothing stays of the hall before, nor of the one before that.
    private static void nothingOfTheHallsBefore() {
        String[] texts = {"", "hall 2 2;", "lamp 3 2 9;person 3 2 4 0;", "law 1;", "door 0 0;", "wall 0 0;wall 3 2;",
            "hall 1 1;law 1;door 0 0;lamp 0 0 0;person 0 0 7 1;", States.HALL, "lamp 0 0 1"};
        for (String first : texts) {
            for (String second : texts) {
                for (String third : texts) {
                    afterOthers(first, second, third);
                }
            }
        }
    }

    private static void afterOthers(String first, String second, String third) {
        DarkLeavers x = new DarkLeavers();
        for (String text : new String[] {first, second, third}) {
            x.clear();
            Due.typeAll(x, text);
            x.hall();
            x.grief();
            x.worth(0, 9);
        }
        boolean faulty = third.equals("lamp 0 0 1");
        String last = !faulty ? third : second.equals(third) ? first : second;
        DarkLeavers twin = new DarkLeavers();
        Due.typeAll(twin, last.equals("lamp 0 0 1") ? "" : last);
        twin.hall();
        if (faulty) {
            Due.typeAll(twin, third);
        }
        String one = Whole.of(x);
        String other = Whole.of(twin);
        due.holds("'" + first + "', '" + second + "', '" + third + "': " + Whole.difference(one, other), one.equals(other));
    }

    // "(Read anew: all are there, all is LIT, nothing SEEN, IMAGES are gone.)"
    private static void readAnew() {
        DarkLeavers x = tells(States.HALL, 16);
        DarkLeavers twin = Due.told(States.HALL);
        twin.mark(4, 2);
        String one = Whole.of(x);
        String other = Whole.of(twin);
        due.holds("told anew is as told: " + Whole.difference(one, other), one.equals(other));
        DarkLeavers full = States.SEEN_FULL.make();
        Due.typeAll(full, States.SIX_LIGHT);
        due.is("told anew", full.hall(), 12);
        due.is("room to see", full.saw(0, 0, 1), 1);
        DarkLeavers left = States.ALL_LEFT.make();
        Due.typeAll(left, States.SIX_LIGHT);
        due.is("told anew when all had left", left.hall(), 12);
        due.is("all can leave", left.most(), 6);
        due.is("all is lit", left.count(3), 6);
        due.is("nobody has left", left.undo(), -2);
        due.is("no image", left.back(1), -2);
    }

    // "-10 less FAULT: nothing changes": the text stays, and can be gone on with.
    private static void aFaultCanBeMended() {
        DarkLeavers x = States.BUSY.make();
        due.is("it ends too early", x.hall(), -20);
        due.is("again", x.hall(), -20);
        due.is("a byte more", x.type(';', 1), 11);
        due.is("told", x.hall(), 1);
        due.is("the lamp", x.lamp(0, 0), 11);
        due.is("empty", x.hall(), 0);
    }
}
