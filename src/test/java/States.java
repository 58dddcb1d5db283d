/** Objects in which much has been done, made anew for each test, so that a change by a refused call can be seen. */
enum States {
    NEW, TOLD, BUSY, TEXT_FULL, SEEN_FULL, ALL_LEFT;

    // Cell 5 is a wall; person 5 sits in the far corner, where lamp 5 alone shines.
    static final String HALL = "hall 4 3;wall 1 1;law 1;door 0 0;lamp 0 0 1;lamp 1 0 1;lamp 2 0 2;lamp 3 0 1;"
            + "lamp 0 1 2;lamp 3 2 1;person 0 0 3 0;person 1 0 0 1;person 2 0 1 1;person 3 0 2 0;person 0 1 9 1;"
            + "person 3 2 5 0;";
    static final int WALL = 5;
    static final String SIX_LIGHT = "lamp 0 0 9;lamp 0 0 9;lamp 0 0 9;lamp 0 0 9;lamp 0 0 9;lamp 0 0 9;"
            + "person 0 0 5 0;person 1 0 4 1;person 2 0 3 0;person 3 0 2 1;person 3 1 1 0;person 3 2 0 1;";

    DarkLeavers make() {
        switch (this) {
            case NEW: return new DarkLeavers();
            case TOLD: return Due.told(HALL);
            case BUSY: return busy("lamp 3 2 1");
            case TEXT_FULL: return busy("   " + "door 0 0;".repeat(33));
            case SEEN_FULL: return seenFull();
            default: return allLeft();
        }
    }

    /** Two have left (3 by lamp 3, then 2 by lamp 5), three things were seen, both images and a text are there. */
    private static DarkLeavers busy(String text) {
        DarkLeavers x = Due.told(HALL);
        x.mark(4, 2);
        x.saw(1, 3, 1);
        x.keep(0);
        x.leaves(3, 3);
        x.saw(0, 0, 1);
        x.keep(1);
        x.leaves(2, 5);
        x.saw(2, 10, 0);
        Due.typeAll(x, text);
        return x;
    }

    private static DarkLeavers seenFull() {
        DarkLeavers x = Due.told(SIX_LIGHT);
        for (int after = 0; after < 6; after++) {
            x.saw(after, 0, 1);
        }
        x.saw(6, 0, 0);
        x.saw(6, 11, 0);
        x.leaves(2, 4);
        return x;
    }

    private static DarkLeavers allLeft() {
        DarkLeavers x = Due.told(SIX_LIGHT);
        for (int i = 0; i < 6; i++) {
            x.leaves(i, 5 - i);
        }
        x.keep(1);
        return x;
    }
}
