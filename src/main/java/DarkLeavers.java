/** A hall of lamps and people: whoever leaves it puts out one lamp. */
public final class DarkLeavers {
    public static final int BAD = -1, STATE = -2, FULL = -3, NONE = -9;
    public static final int NO = -1000000;

    private static final int WIDE_LIMIT = 4, HIGH_LIMIT = 3, CELL_LIMIT = WIDE_LIMIT * HIGH_LIMIT;
    private static final int LAMP_LIMIT = 6, PEOPLE_LIMIT = 6, SEEN_LIMIT = 8, IMAGE_LIMIT = 2;
    private static final int TEXT_LIMIT = 300, BYTES_AT_ONCE = 8;
    private static final int REACH_LIMIT = 9, WISH_LIMIT = 9;
    private static final int NOT_SO_MANY = -5, FAULT_BASE = -10;
    private static final int KINDS = 6;

    // worth() sets up one lamp more than a text may tell.
    private static final int LAMPS_WITH_ONE_MORE = LAMP_LIMIT + 1;
    private static final int LAMP_SETS_WITH_ONE_MORE = 1 << LAMPS_WITH_ONE_MORE;
    private static final int LAMP_SETS = 1 << LAMP_LIMIT;
    private static final int PEOPLE_SETS = 1 << PEOPLE_LIMIT;

    private final Text text = new Text();
    private final Now now = new Now();
    private final Now imageZero = new Now(), imageOne = new Now();
    private final boolean[] kept = new boolean[IMAGE_LIMIT];
    // The draft is read into while the told hall must stay as it is, for a text may have a fault.
    private Hall told = new Hall();
    private Hall draft = new Hall();
    private final Outlook outlook = new Outlook(told);
    private long traced = 0L;

    /** Without lamps nothing is light and nobody can leave: the tables of a new hall say so already. */
    public DarkLeavers() {
    }

    // ---- the hall

    public int type(long v, int n) {
        if (n < 1 || n > BYTES_AT_ONCE) {
            return BAD;
        }
        if (text.length + n > TEXT_LIMIT) {
            return FULL;
        }
        for (int left = n - 1; left >= 0; left--) {
            text.add((int) ((v >>> (8 * left)) & 255L));
        }
        return text.length;
    }

    public int clear() {
        int had = text.length;
        text.length = 0;
        return had;
    }

    public int hall() {
        int items = text.readInto(draft);
        if (items >= 0) {
            text.length = 0;
            beginAnew();
        }
        return items;
    }

    private void beginAnew() {
        Hall old = told;
        told = draft;
        draft = old;
        told.lightUp();
        outlook.lookAt(told);
        now.restart();
        for (int image = 0; image < IMAGE_LIMIT; image++) {
            kept[image] = false;
        }
    }

    public int cell(int c, int what) {
        if (!isCell(c)) {
            return BAD;
        }
        switch (what) {
            case 0: return bitOf(told.walls, c);
            case 1: return bitOf(told.doors, c);
            case 2: return bitOf(told.light[litNow()], c);
            default: return BAD;
        }
    }

    public int lamp(int l, int what) {
        if (!isLamp(l)) {
            return BAD;
        }
        switch (what) {
            case 0: return told.lampCell[l];
            case 1: return told.lampReach[l];
            case 2: return bitOf(litNow(), l);
            case 3: return told.shine[l];
            default: return BAD;
        }
    }

    public int person(int p, int what) {
        if (!isPerson(p)) {
            return BAD;
        }
        switch (what) {
            case 0: return told.personCell[p];
            case 1: return told.wish[p];
            case 2: return told.side[p];
            case 3: return now.placeOf(p);
            default: return BAD;
        }
    }

    // ---- leaving

    public int can(int p) {
        if (!isPerson(p)) {
            return BAD;
        }
        if (hasLeft(p)) {
            return STATE;
        }
        return bitOf(told.leavers[litNow()], p);
    }

    public int leaves(int p, int l) {
        if (!isPerson(p) || !isLamp(l)) {
            return BAD;
        }
        boolean free = !hasLeft(p) && bitOf(told.leavers[litNow()], p) == 1;
        if (!free || bitOf(litNow(), l) == 0) {
            return STATE;
        }
        now.depart(p, l);
        return now.left;
    }

    public int undo() {
        if (now.left == 0) {
            return STATE;
        }
        now.takeBack();
        return now.left;
    }

    // ---- what can be

    public int most() {
        return outlook.mostOf(thereNow(), litNow());
    }

    public int order(int k, int what) {
        if (k < 0 || what < 0 || what > 1) {
            return BAD;
        }
        if (k >= outlook.mostOf(thereNow(), litNow())) {
            return NOT_SO_MANY;
        }
        outlook.follow(thereNow(), litNow(), k);
        return what == 0 ? outlook.chosenPerson : outlook.chosenLamp;
    }

    public int rows() {
        return outlook.countRows(thereNow(), litNow(), 0, 0, null);
    }

    public int bar() {
        return outlook.barOf(thereNow(), litNow());
    }

    public int grief() {
        return outlook.griefOf(thereNow(), litNow());
    }

    public int game() {
        return outlook.winnerOf(thereNow(), litNow());
    }

    public int worth(int c, int reach) {
        if (!isOpenCell(c) || reach < 0 || reach > REACH_LIMIT) {
            return BAD;
        }
        int without = outlook.mostOf(thereNow(), litNow());
        told.lightOneMore(c, reach);
        return outlook.mostWithOneMore(thereNow(), litNow()) - without;
    }

    // ---- what was seen

    public int saw(int after, int c, int light) {
        if (after < 0 || after > PEOPLE_LIMIT || !isOpenCell(c) || light < 0 || light > 1) {
            return BAD;
        }
        if (now.seen >= SEEN_LIMIT) {
            return FULL;
        }
        now.noteSeen(after, c, light);
        return now.seen;
    }

    public int forget() {
        int had = now.seen;
        now.seen = 0;
        return had;
    }

    public int fits() {
        return outlook.countRows(told.allPeople(), told.allLamps(), 0, 0, now);
    }

    public int who(int l) {
        if (!isLamp(l)) {
            return BAD;
        }
        int found = 0;
        for (int p = 0; p < told.people; p++) {
            if (outlook.countRows(told.allPeople(), told.allLamps(), 1 << p, 1 << l, now) > 0) {
                found |= 1 << p;
            }
        }
        return found;
    }

    // ---- kinds, images

    public int mark(int kind, int p) {
        if (kind < 0 || kind >= KINDS || !isPerson(p)) {
            return NO;
        }
        switch (kind) {
            case 1: return markOfAunt(p);
            case 2: return markOfWaiter(p);
            case 3: return markOfGreatAunt(p);
            case 4: return markOfPorter(p);
            case 5: return markOfFiddler(p);
            default: return markOfGuest(p);
        }
    }

    private int markOfGuest(int p) {
        traced += 1L;
        return told.wish[p];
    }

    private int markOfAunt(int p) {
        traced += 10L;
        return markOfGuest(p) + now.left;
    }

    private int markOfWaiter(int p) {
        traced += 100L;
        return markOfGuest(p) + Integer.bitCount(litNow());
    }

    private int markOfGreatAunt(int p) {
        traced += 1000L;
        return markOfAunt(p) * 2;
    }

    private int markOfPorter(int p) {
        traced += 10000L;
        return markOfWaiter(p) - told.personCell[p];
    }

    private int markOfFiddler(int p) {
        traced += 100000L;
        return markOfGuest(p) + told.side[p];
    }

    public int keep(int image) {
        if (image < 0 || image >= IMAGE_LIMIT) {
            return BAD;
        }
        imageOf(image).copyFrom(now);
        kept[image] = true;
        return now.left;
    }

    public int back(int image) {
        if (image < 0 || image >= IMAGE_LIMIT) {
            return BAD;
        }
        if (!kept[image]) {
            return STATE;
        }
        now.copyFrom(imageOf(image));
        return now.left;
    }

    private Now imageOf(int image) {
        return image == 0 ? imageZero : imageOne;
    }

    public int count(int what) {
        switch (what) {
            case 0: return told.cells();
            case 1: return told.lamps;
            case 2: return told.people;
            case 3: return Integer.bitCount(litNow());
            case 4: return now.left;
            case 5: return told.law;
            case 6: return now.seen;
            case 7: return text.length;
            default: return BAD;
        }
    }

    public long trace() {
        return traced;
    }

    private boolean isCell(int c) {
        return c >= 0 && c < told.cells();
    }

    private boolean isOpenCell(int c) {
        return isCell(c) && bitOf(told.walls, c) == 0;
    }

    private boolean isLamp(int l) {
        return l >= 0 && l < told.lamps;
    }

    private boolean isPerson(int p) {
        return p >= 0 && p < told.people;
    }

    private boolean hasLeft(int p) {
        return bitOf(now.gone, p) == 1;
    }

    private int litNow() {
        return told.allLamps() & ~now.dark;
    }

    private int thereNow() {
        return told.allPeople() & ~now.gone;
    }

    private static int bitOf(int bits, int place) {
        return (bits >>> place) & 1;
    }

    /** What a text tells. Sets of cells, lamps and people are bits. */
    private static final class Hall {
        int wide = WIDE_LIMIT, high = HIGH_LIMIT, walls, doors, law, lamps, people;
        final int[] lampCell = new int[LAMP_LIMIT];
        final int[] lampReach = new int[LAMP_LIMIT];
        final int[] shine = new int[LAMPS_WITH_ONE_MORE];
        final int[] personCell = new int[PEOPLE_LIMIT];
        final int[] wish = new int[PEOPLE_LIMIT];
        final int[] side = new int[PEOPLE_LIMIT];
        // By the set of lamps that are lit: the cells that are light, and who could leave.
        final int[] light = new int[LAMP_SETS_WITH_ONE_MORE];
        final int[] leavers = new int[LAMP_SETS_WITH_ONE_MORE];

        void empty() {
            wide = WIDE_LIMIT;
            high = HIGH_LIMIT;
            walls = 0;
            doors = 0;
            law = 0;
            lamps = 0;
            people = 0;
        }

        int cells() {
            return wide * high;
        }

        int allLamps() {
            return (1 << lamps) - 1;
        }

        int allPeople() {
            return (1 << people) - 1;
        }

        void addLamp(int cell, int reach) {
            if (lamps < LAMP_LIMIT) {
                lampCell[lamps] = cell;
                lampReach[lamps] = reach;
                lamps++;
            }
        }

        void addPerson(int cell, int hour, int ofSide) {
            if (people < PEOPLE_LIMIT) {
                personCell[people] = cell;
                wish[people] = hour;
                side[people] = ofSide;
                people++;
            }
        }

        void lightUp() {
            for (int l = 0; l < lamps; l++) {
                shine[l] = shineFrom(lampCell[l], lampReach[l]);
            }
            fillLight(0, 1 << lamps);
        }

        /** The lamp more is numbered behind all others, so what is known without it stays true. */
        void lightOneMore(int cell, int reach) {
            shine[lamps] = shineFrom(cell, reach);
            fillLight(1 << lamps, 2 << lamps);
        }

        private void fillLight(int from, int end) {
            for (int lit = from; lit < end; lit++) {
                light[lit] = lightOf(lit);
                leavers[lit] = leaversIn(light[lit]);
            }
        }

        private int lightOf(int lit) {
            int found = 0;
            for (int l = 0; l < LAMPS_WITH_ONE_MORE; l++) {
                if (bitOf(lit, l) == 1) {
                    found |= shine[l];
                }
            }
            return found;
        }

        private int leaversIn(int lightCells) {
            int from = law == 1 ? spread(doors & lightCells, lightCells, CELL_LIMIT) : lightCells;
            int found = 0;
            for (int p = 0; p < people; p++) {
                found |= bitOf(from, personCell[p]) << p;
            }
            return found;
        }

        private int shineFrom(int cell, int reach) {
            return spread(1 << cell, ((1 << cells()) - 1) & ~walls, reach);
        }

        private int spread(int from, int ground, int steps) {
            int reached = from;
            for (int step = 0; step < steps; step++) {
                int further = reached | (beside(reached) & ground);
                if (further == reached) {
                    return reached;
                }
                reached = further;
            }
            return reached;
        }

        /** May name cells beyond the last row: whoever asks keeps to cells that there are. */
        private int beside(int spots) {
            int firstColumn = 0;
            for (int y = 0; y < high; y++) {
                firstColumn |= 1 << (wide * y);
            }
            int lastColumn = firstColumn << (wide - 1);
            int inColumn = (spots << wide) | (spots >>> wide);
            int inRow = ((spots & ~lastColumn) << 1) | ((spots & ~firstColumn) >>> 1);
            return inColumn | inRow;
        }
    }

    /** Who has left and put out what, in order, and what was seen: all that an image keeps. */
    private static final class Now {
        int left, gone, dark, seen;
        final int[] leaver = new int[PEOPLE_LIMIT];
        final int[] putOut = new int[PEOPLE_LIMIT];
        final int[] seenAfter = new int[SEEN_LIMIT];
        final int[] seenCell = new int[SEEN_LIMIT];
        final int[] seenLight = new int[SEEN_LIMIT];

        void restart() {
            left = 0;
            gone = 0;
            dark = 0;
            seen = 0;
        }

        void copyFrom(Now other) {
            left = other.left;
            gone = other.gone;
            dark = other.dark;
            seen = other.seen;
            System.arraycopy(other.leaver, 0, leaver, 0, PEOPLE_LIMIT);
            System.arraycopy(other.putOut, 0, putOut, 0, PEOPLE_LIMIT);
            System.arraycopy(other.seenAfter, 0, seenAfter, 0, SEEN_LIMIT);
            System.arraycopy(other.seenCell, 0, seenCell, 0, SEEN_LIMIT);
            System.arraycopy(other.seenLight, 0, seenLight, 0, SEEN_LIMIT);
        }

        void depart(int p, int l) {
            if (left >= PEOPLE_LIMIT) {
                return;
            }
            leaver[left] = p;
            putOut[left] = l;
            gone |= 1 << p;
            dark |= 1 << l;
            left++;
        }

        void takeBack() {
            if (left <= 0) {
                return;
            }
            left--;
            gone &= ~(1 << leaver[left]);
            dark &= ~(1 << putOut[left]);
        }

        int placeOf(int p) {
            for (int place = 0; place < left; place++) {
                if (leaver[place] == p) {
                    return place;
                }
            }
            return NONE;
        }

        void noteSeen(int after, int cell, int light) {
            if (seen >= SEEN_LIMIT) {
                return;
            }
            seenAfter[seen] = after;
            seenCell[seen] = cell;
            seenLight[seen] = light;
            seen++;
        }

        boolean sawLaterThan(int people) {
            for (int s = 0; s < seen; s++) {
                if (seenAfter[s] > people) {
                    return true;
                }
            }
            return false;
        }

        boolean agrees(int after, int light) {
            for (int s = 0; s < seen; s++) {
                if (seenAfter[s] == after && bitOf(light, seenCell[s]) != seenLight[s]) {
                    return false;
                }
            }
            return true;
        }
    }

    /** The bytes of the text, read as tokens and items. */
    private static final class Text {
        static final int END = 0, SEMICOLON = 1, NUMBER = 2, WRONG = 3;
        static final int HALL = 4, WALL = 5, DOOR = 6, LAMP = 7, PERSON = 8, LAW = 9;
        static final int NUMBER_LIMIT = 99, NUMBERS_LIMIT = 4;

        final int[] bytes = new int[TEXT_LIMIT];
        int length = 0;
        // The token read last.
        private int next, start, kind, value;
        // The item being told (the kind of its word, or END between items) and its numbers up to now.
        private int item, numbersTold, items;
        private final int[] numbers = new int[NUMBERS_LIMIT];
        private boolean lawTold;

        void add(int octet) {
            if (length < TEXT_LIMIT) {
                bytes[length] = octet;
                length++;
            }
        }

        /** How many items, or -10 less the fault. */
        int readInto(Hall hall) {
            hall.empty();
            next = 0;
            item = END;
            items = 0;
            lawTold = false;
            for (int tokens = 0; tokens <= length; tokens++) {
                readToken();
                if (kind == END && item == END) {
                    return items;
                }
                if (!accept(hall)) {
                    return FAULT_BASE - start;
                }
            }
            return FAULT_BASE - length;
        }

        private boolean accept(Hall hall) {
            if (item == END) {
                return beginItem(hall);
            }
            if (numbersTold < numbersOf(item)) {
                return acceptNumber(hall);
            }
            if (kind != SEMICOLON) {
                return false;
            }
            endItem(hall);
            return true;
        }

        private boolean beginItem(Hall hall) {
            item = kind;
            numbersTold = 0;
            switch (kind) {
                case HALL: return items == 0;
                case WALL: return hall.doors == 0 && hall.lamps == 0 && hall.people == 0;
                case DOOR: return true;
                case LAMP: return hall.lamps < LAMP_LIMIT;
                case PERSON: return hall.people < PEOPLE_LIMIT;
                case LAW: return !lawTold;
                default: return false;
            }
        }

        private static int numbersOf(int itemKind) {
            switch (itemKind) {
                case LAW: return 1;
                case LAMP: return 3;
                case PERSON: return 4;
                default: return 2;
            }
        }

        private boolean acceptNumber(Hall hall) {
            int least = item == HALL ? 1 : 0;
            if (kind != NUMBER || value < least || value > greatest(hall) || numbersTold >= NUMBERS_LIMIT) {
                return false;
            }
            numbers[numbersTold] = value;
            numbersTold++;
            boolean stands = item == DOOR || item == LAMP || item == PERSON;
            return !stands || numbersTold != 2 || bitOf(hall.walls, cellTold(hall)) == 0;
        }

        private int greatest(Hall hall) {
            if (item == LAW) {
                return 1;
            }
            switch (numbersTold) {
                case 0: return item == HALL ? WIDE_LIMIT : hall.wide - 1;
                case 1: return item == HALL ? HIGH_LIMIT : hall.high - 1;
                case 2: return item == LAMP ? REACH_LIMIT : WISH_LIMIT;
                default: return 1;
            }
        }

        private int cellTold(Hall hall) {
            return hall.wide * numbers[1] + numbers[0];
        }

        private void endItem(Hall hall) {
            switch (item) {
                case HALL:
                    hall.wide = numbers[0];
                    hall.high = numbers[1];
                    break;
                case WALL:
                    hall.walls |= 1 << cellTold(hall);
                    break;
                case DOOR:
                    hall.doors |= 1 << cellTold(hall);
                    break;
                case LAMP:
                    hall.addLamp(cellTold(hall), numbers[2]);
                    break;
                case PERSON:
                    hall.addPerson(cellTold(hall), numbers[2], numbers[3]);
                    break;
                default:
                    hall.law = numbers[0];
                    lawTold = true;
                    break;
            }
            item = END;
            items++;
        }

        private void readToken() {
            while (next < length && bytes[next] == ' ') {
                next++;
            }
            start = next;
            if (next >= length) {
                kind = END;
            } else if (isLetter(bytes[next])) {
                takeWord();
            } else if (isDigit(bytes[next])) {
                takeNumber();
            } else {
                kind = bytes[next] == ';' ? SEMICOLON : WRONG;
                next++;
            }
        }

        private void takeWord() {
            while (next < length && isLetter(bytes[next])) {
                next++;
            }
            if (wordIs("hall")) {
                kind = HALL;
            } else if (wordIs("wall")) {
                kind = WALL;
            } else if (wordIs("door")) {
                kind = DOOR;
            } else if (wordIs("lamp")) {
                kind = LAMP;
            } else if (wordIs("person")) {
                kind = PERSON;
            } else {
                kind = wordIs("law") ? LAW : WRONG;
            }
        }

        private boolean wordIs(String name) {
            if (next - start != name.length()) {
                return false;
            }
            for (int i = 0; i < name.length(); i++) {
                if (bytes[start + i] != name.charAt(i)) {
                    return false;
                }
            }
            return true;
        }

        /** The value stops growing beyond the limit, for hundreds of digits may stand there. */
        private void takeNumber() {
            value = 0;
            while (next < length && isDigit(bytes[next])) {
                value = Math.min(value * 10 + bytes[next] - '0', NUMBER_LIMIT + 1);
                next++;
            }
            boolean zeroAhead = bytes[start] == '0' && next - start > 1;
            kind = zeroAhead || value > NUMBER_LIMIT ? WRONG : NUMBER;
        }

        private static boolean isLetter(int octet) {
            return octet >= 'a' && octet <= 'z';
        }

        private static boolean isDigit(int octet) {
            return octet >= '0' && octet <= '9';
        }
    }

    /**
     * What can still come. A lamp less never lets anybody leave who could not before, so those who
     * can leave at a later turn could at each earlier one: the sets of leavers lie in one another.
     */
    private static final class Outlook {
        static final int IMPOSSIBLE = 1000;

        private Hall hall;
        // By the set of lamps that are lit.
        private final int[] longest = new int[LAMP_SETS_WITH_ONE_MORE];
        private final int[] ways = new int[LAMP_SETS];
        // By the set of people there and the set of lamps lit; filled when first asked of a hall.
        private final int[] griefs = new int[PEOPLE_SETS * LAMP_SETS];
        private final int[] wins = new int[PEOPLE_SETS * LAMP_SETS];
        private boolean tablesKnown;
        int chosenPerson, chosenLamp;

        Outlook(Hall newHall) {
            hall = newHall;
        }

        void lookAt(Hall newHall) {
            hall = newHall;
            tablesKnown = false;
        }

        int mostOf(int people, int lit) {
            fillLongest(people, 1 << hall.lamps);
            return longest[lit];
        }

        int mostWithOneMore(int people, int lit) {
            fillLongest(people, 2 << hall.lamps);
            return longest[lit | (1 << hall.lamps)];
        }

        /**
         * How many of these people can leave one behind another, for each set of lamps. As the sets of
         * leavers lie in one another, so many can leave if at each turn enough could for all turns to come.
         */
        private void fillLongest(int people, int lampSets) {
            for (int lit = 0; lit < lampSets; lit++) {
                int further = -1;
                for (int l = 0; l < LAMPS_WITH_ONE_MORE; l++) {
                    if (bitOf(lit, l) == 1) {
                        further = Math.max(further, longest[lit & ~(1 << l)]);
                    }
                }
                longest[lit] = Math.min(Integer.bitCount(hall.leavers[lit] & people), 1 + further);
            }
        }

        int barOf(int people, int lit) {
            int all = mostOf(people, lit);
            if (all == 0) {
                return NONE;
            }
            int best = lit;
            for (int out = 1; out < lit; out++) {
                boolean bars = (out & ~lit) == 0 && longest[lit & ~out] < all;
                if (bars && Integer.bitCount(out) < Integer.bitCount(best)) {
                    best = out;
                }
            }
            return best;
        }

        /** Chooses for turns 0 to k; the last choice stays in chosenPerson and chosenLamp. */
        void follow(int people, int lit, int k) {
            int there = people;
            int burning = lit;
            int length = mostOf(people, lit);
            for (int turn = 0; turn <= k && turn < length; turn++) {
                choose(there, burning, length - turn - 1);
                there &= ~(1 << chosenPerson);
                burning &= ~(1 << chosenLamp);
            }
        }

        /** The first one and the first lamp behind which so many can still leave. */
        private void choose(int people, int lit, int toFollow) {
            for (int p = 0; p < hall.people; p++) {
                if (bitOf(people & hall.leavers[lit], p) == 0) {
                    continue;
                }
                fillLongest(people & ~(1 << p), 1 << hall.lamps);
                for (int l = 0; l < hall.lamps; l++) {
                    if (bitOf(lit, l) == 1 && longest[lit & ~(1 << l)] >= toFollow) {
                        chosenPerson = p;
                        chosenLamp = l;
                        return;
                    }
                }
            }
        }

        /**
         * How many rows there are in which all these people leave, and what was seen fits, if that is given
         * (then the row must start at the beginning); with a person's and a lamp's bit, only those in which
         * this one puts out that lamp.
         */
        int countRows(int people, int lit, int person, int lamp, Now seen) {
            if (seen != null && seen.sawLaterThan(hall.people)) {
                return 0;
            }
            int most = Integer.bitCount(people);
            for (int burning = 0; burning <= lit; burning++) {
                int turns = Integer.bitCount(lit) - Integer.bitCount(burning);
                boolean counts = (burning & ~lit) == 0 && turns <= most;
                if (counts && (seen == null || seen.agrees(turns, hall.light[burning]))) {
                    ways[burning] = waysFrom(people, burning, most - turns, person, lamp);
                } else {
                    ways[burning] = 0;
                }
            }
            return ways[lit];
        }

        /**
         * This one leaves just when that lamp goes out, so both are there or neither is. Of the others as
         * many could leave now as there are leavers, less those who must leave later: they can now, too.
         */
        private int waysFrom(int people, int lit, int toLeave, int person, int lamp) {
            boolean waits = (lit & lamp) != 0;
            if (toLeave == 0) {
                return waits ? 0 : 1;
            }
            int later = waits ? toLeave - 2 : toLeave - 1;
            int others = Math.max(0, Integer.bitCount(hall.leavers[lit] & people & ~person) - Math.max(0, later));
            int found = 0;
            for (int l = 0; l < hall.lamps; l++) {
                int out = lit & (1 << l);
                if (out != 0 && out != lamp) {
                    found += others * ways[lit & ~out];
                }
            }
            if (waits && (hall.leavers[lit] & person) != 0) {
                found += ways[lit & ~lamp];
            }
            return found;
        }

        int griefOf(int people, int lit) {
            fillTables();
            int least = griefs[placeIn(people, lit)];
            return least >= IMPOSSIBLE ? NONE : least;
        }

        int winnerOf(int people, int lit) {
            fillTables();
            return bitOf(wins[placeIn(people, lit)], 0) == 1 ? 0 : 1;
        }

        /** With everyone who leaves one lamp goes out, so of all sets only those of like sizes come together. */
        private void fillTables() {
            if (tablesKnown) {
                return;
            }
            tablesKnown = true;
            for (int people = 0; people <= hall.allPeople(); people++) {
                int burning = hall.lamps - hall.people + Integer.bitCount(people);
                for (int lit = 0; lit <= hall.allLamps(); lit++) {
                    if (Integer.bitCount(lit) == burning) {
                        griefs[placeIn(people, lit)] = leastGrief(people, lit);
                        wins[placeIn(people, lit)] = sidesThatWin(people, lit);
                    }
                }
            }
        }

        /** Who can't leave now never can, so all who are there must be able to. */
        private int leastGrief(int people, int lit) {
            if (people == 0) {
                return 0;
            }
            if ((people & ~hall.leavers[lit]) != 0) {
                return IMPOSSIBLE;
            }
            int ahead = hall.people - Integer.bitCount(people);
            int least = IMPOSSIBLE;
            for (int p = 0; p < hall.people; p++) {
                if (bitOf(people, p) == 1) {
                    int own = Math.abs(hall.wish[p] - ahead);
                    least = Math.min(least, own + leastGriefBehind(people & ~(1 << p), lit));
                }
            }
            return least;
        }

        private int leastGriefBehind(int people, int lit) {
            int least = IMPOSSIBLE;
            for (int l = 0; l < hall.lamps; l++) {
                if (bitOf(lit, l) == 1) {
                    least = Math.min(least, griefs[placeIn(people, lit & ~(1 << l))]);
                }
            }
            return least;
        }

        /** A bit for each side that wins if it is its turn. */
        private int sidesThatWin(int people, int lit) {
            int found = 0;
            for (int p = 0; p < hall.people; p++) {
                int side = hall.side[p];
                boolean open = bitOf(people & hall.leavers[lit], p) == 1 && bitOf(found, side) == 0;
                if (open && canBeat(1 - side, people & ~(1 << p), lit)) {
                    found |= 1 << side;
                }
            }
            return found;
        }

        private boolean canBeat(int other, int people, int lit) {
            for (int l = 0; l < hall.lamps; l++) {
                if (bitOf(lit, l) == 1 && bitOf(wins[placeIn(people, lit & ~(1 << l))], other) == 0) {
                    return true;
                }
            }
            return false;
        }

        private static int placeIn(int people, int lit) {
            return people * LAMP_SETS + lit;
        }
    }
}
