import java.util.Random;

/** Long runs of calls on an object and on the slow model; each answer must be the same. */
public final class ModelTest {
    private static final int LEAVES = 4;
    private static final Due due = new Due("ModelTest");

    private final Random random;
    private final DarkLeavers x = new DarkLeavers();
    private final Model model = new Model();
    private final int sizeLimit;
    private final String name;

    private ModelTest(long seed, int sizeLimit) {
        this.random = new Random(seed);
        this.sizeLimit = sizeLimit;
        this.name = "seed " + seed + " ";
    }

    public static void main(String[] args) {
        for (int seed = 0; seed < 400 && due.wrongs() == 0; seed++) {
            new ModelTest(seed, 4).run(250);
        }
        for (int seed = 1000; seed < 1040 && due.wrongs() == 0; seed++) {
            new ModelTest(seed, 5).run(100);
        }
        for (int seed = 2000; seed < 2012 && due.wrongs() == 0; seed++) {
            new ModelTest(seed, 6).run(40);
        }
        for (int seed = 3000; seed < 3300 && due.wrongs() == 0; seed++) {
            new ModelTest(seed, 6).readTexts(30);
        }
        for (int seed = 4000; seed < 4120 && due.wrongs() == 0; seed++) {
            new ModelTest(seed, 4 + seed % 3).crowd();
        }
        due.end();
    }

    private int below(int n) {
        return random.nextInt(n);
    }

    private void run(int calls) {
        for (int i = 0; i < calls && due.wrongs() == 0; i++) {
            if (i == 0 || below(60) == 0) {
                tell(goodText());
            } else if (below(60) == 0) {
                tell(spoilt(goodText()));
            } else {
                call(below(27));
            }
        }
    }

    private void readTexts(int texts) {
        for (int i = 0; i < texts; i++) {
            String text = goodText();
            for (int spoil = below(4); spoil > 0; spoil--) {
                text = spoilt(text);
            }
            tell(text);
            for (int what = 0; what < 9; what++) {
                due.is(name + "count", x.count(what), model.count(what));
            }
            for (int n = -1; n < 13; n++) {
                for (int what = -1; what < 5; what++) {
                    due.is(name + "cell " + n, x.cell(n, what), model.cell(n, what));
                    due.is(name + "lamp " + n, x.lamp(n, what), model.lamp(n, what));
                    due.is(name + "person " + n, x.person(n, what), model.person(n, what));
                }
                due.is(name + "can " + n, x.can(n), model.can(n));
            }
        }
    }

    /** Halls in which much can happen, which the texts of the other runs seldom tell; all is asked turn by turn. */
    private void crowd() {
        tell(crowdedText());
        for (int turn = 0; turn < 5 && due.wrongs() == 0; turn++) {
            askWhatCanBe();
            askWhatWasSeen();
            for (int tries = 0, left = model.count(4); tries < 20 && model.count(4) == left; tries++) {
                call(LEAVES);
            }
        }
    }

    private String crowdedText() {
        int wide = 2 + below(3), high = 1 + below(3), law = below(2);
        StringBuilder text = new StringBuilder("hall " + wide + " " + high + ";law " + law + ";");
        if (below(2) == 0) {
            text.append("wall 1 0;");
        }
        for (int doors = law * (1 + below(3)); doors > 0; doors--) {
            text.append("door ").append(spot(wide, high)).append(';');
        }
        int lamps = sizeLimit - below(2), people = sizeLimit - below(3);
        for (; lamps > 0; lamps--) {
            text.append("lamp ").append(spot(wide, high)).append(' ').append(below(below(3) == 0 ? 10 : 4)).append(';');
        }
        for (; people > 0; people--) {
            text.append("person ").append(spot(wide, high)).append(' ').append(below(10)).append(' ').append(below(2));
            text.append(';');
        }
        return text.toString();
    }

    /** Any cell but 1, where a wall may be. */
    private String spot(int wide, int high) {
        int c = below(wide * high);
        return c == 1 ? "0 0" : c % wide + " " + c / wide;
    }

    private void askWhatCanBe() {
        int most = model.most();
        due.is(name + "most", x.most(), most);
        for (int k = 0; k <= most; k++) {
            due.is(name + "order who", x.order(k, 0), model.order(k, 0));
            due.is(name + "order lamp", x.order(k, 1), model.order(k, 1));
        }
        due.is(name + "rows", x.rows(), model.rows());
        due.is(name + "grief", x.grief(), model.grief());
        due.is(name + "game", x.game(), model.game());
        if (model.count(3) < 6) {
            due.is(name + "bar", x.bar(), model.bar());
            due.is(name + "worth", x.worth(0, 1), model.worth(0, 1));
        }
    }

    private void askWhatWasSeen() {
        int after = below(model.count(2)), c = below(model.count(0)), light = below(2);
        due.is(name + "saw", x.saw(after, c, light), model.saw(after, c, light));
        due.is(name + "fits", x.fits(), model.fits());
        int l = below(model.count(1));
        due.is(name + "who", x.who(l), model.who(l));
        if (x.fits() == 0) {
            due.is(name + "forget", x.forget(), model.forget());
        }
    }

    private void tell(String text) {
        if (below(4) != 0) {
            due.is(name + "clear", x.clear(), model.clear());
        }
        for (int i = 0; i < text.length(); i++) {
            due.is(name + "type", x.type(text.charAt(i), 1), model.type(text.charAt(i), 1));
        }
        due.is(name + "hall '" + text + "'", x.hall(), model.hall());
    }

    private String goodText() {
        StringBuilder text = new StringBuilder();
        int wide = 4, high = 3;
        boolean[] wall = new boolean[12];
        if (below(3) != 0) {
            wide = 1 + below(4);
            high = 1 + below(3);
            text.append("hall ").append(wide).append(' ').append(high).append(';');
        }
        int lawAt = below(3);
        if (lawAt == 0) text.append("law ").append(below(2)).append(';');
        for (int walls = below(5); walls > 0 && wide * high > 2; walls--) {
            int c = 1 + below(wide * high - 1);
            wall[c] = true;
            text.append("wall ").append(c % wide).append(' ').append(c / wide).append(';');
        }
        int lamps = below(sizeLimit + 1), people = below(sizeLimit + 1), doors = below(4);
        while (lamps + people + doors > 0) {
            int which = below(3);
            int c = below(wide * high);
            if (wall[c]) c = 0;
            String spot = " " + c % wide + " " + c / wide;
            if (which == 0 && lamps > 0) {
                lamps--;
                text.append("lamp").append(spot).append(' ').append(below(3) == 0 ? below(10) : below(3)).append(';');
            } else if (which == 1 && people > 0) {
                people--;
                text.append("person").append(spot).append(' ').append(below(10)).append(' ').append(below(2)).append(';');
            } else if (which == 2 && doors > 0) {
                doors--;
                text.append("door").append(spot).append(';');
            }
        }
        if (lawAt == 1) text.append(below(5) == 0 ? " law  " : "law ").append(below(4) == 0 ? 0 : 1).append(';');
        return text.toString();
    }

    private String spoilt(String text) {
        String[] pieces = {" ", ";", "0", "9", "12", "100", "law 1;", "wall 0 0;", "hall 1 1;", "lamp 0 0 0;", "x",
            "\u00c8", "person 0 0 0 0;", "door 3 2;", "-", "\n", "l", "A"};
        int at = below(text.length() + 1);
        int end = Math.min(text.length(), at + (below(2) == 0 ? 0 : 1 + below(4)));
        String piece = below(4) == 0 ? "" : pieces[below(pieces.length)];
        if (below(8) == 0) end = text.length();
        return text.substring(0, at) + piece + text.substring(end);
    }

    /** A number mostly in 0 .. n - 1, at times just outside or far off. */
    private int about(int n) {
        int r = below(40);
        if (r == 0) return -1;
        if (r == 1) return n;
        if (r == 2) return random.nextInt();
        return below(Math.max(1, n));
    }

    private void call(int which) {
        int a, b, c;
        switch (which) {
            case 0: a = about(12); b = about(3); due.is(name + "cell", x.cell(a, b), model.cell(a, b)); break;
            case 1: a = about(sizeLimit); b = about(4); due.is(name + "lamp", x.lamp(a, b), model.lamp(a, b)); break;
            case 2: a = about(sizeLimit); b = about(4); due.is(name + "person", x.person(a, b), model.person(a, b)); break;
            case 3: a = about(sizeLimit); due.is(name + "can", x.can(a), model.can(a)); break;
            case LEAVES: case 5: case 6:
                a = about(sizeLimit);
                b = about(sizeLimit);
                due.is(name + "leaves", x.leaves(a, b), model.leaves(a, b));
                break;
            case 7: due.is(name + "undo", x.undo(), model.undo()); break;
            case 8: due.is(name + "most", x.most(), model.most()); break;
            case 9: case 10: a = about(4); b = about(2); due.is(name + "order", x.order(a, b), model.order(a, b)); break;
            case 11: due.is(name + "rows", x.rows(), model.rows()); break;
            case 12: due.is(name + "bar", x.bar(), model.bar()); break;
            case 13: due.is(name + "grief", x.grief(), model.grief()); break;
            case 14: due.is(name + "game", x.game(), model.game()); break;
            case 15: a = about(12); b = about(10); due.is(name + "worth", x.worth(a, b), model.worth(a, b)); break;
            case 16: case 17:
                a = about(below(3) == 0 ? 7 : 3);
                b = about(12);
                c = about(2);
                due.is(name + "saw", x.saw(a, b, c), model.saw(a, b, c));
                break;
            case 18: due.is(name + "forget", x.forget(), model.forget()); break;
            case 19: due.is(name + "fits", x.fits(), model.fits()); break;
            case 20: case 21: a = about(sizeLimit); due.is(name + "who", x.who(a), model.who(a)); break;
            case 22: a = about(6); b = about(sizeLimit); due.is(name + "mark", x.mark(a, b), model.mark(a, b)); break;
            case 23: a = about(2); due.is(name + "keep", x.keep(a), model.keep(a)); break;
            case 24: a = about(2); due.is(name + "back", x.back(a), model.back(a)); break;
            case 25: a = about(8); due.is(name + "count", x.count(a), model.count(a)); break;
            default: due.is(name + "trace", x.trace(), model.trace()); break;
        }
    }
}
