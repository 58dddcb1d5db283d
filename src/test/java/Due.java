/** Compares answers with those that are due, and tells the ones that differ. */
final class Due {
    private final String name;
    private int wrong = 0;
    private int asked = 0;

    Due(String name) {
        this.name = name;
    }

    void is(String what, long got, long want) {
        asked++;
        if (got != want) {
            wrong++;
            System.out.println(name + ": " + what + " answered " + got + ", due is " + want);
        }
    }

    void holds(String what, boolean got) {
        is(what, got ? 1 : 0, 1);
    }

    int wrongs() {
        return wrong;
    }

    void end() {
        System.out.println(name + ": " + asked + " answers, " + wrong + " not as due");
        if (wrong != 0 || asked == 0) {
            System.exit(1);
        }
    }

    /** Types a text of signs 0 to 255 in pieces of eight bytes; what the last piece answered. */
    static int typeAll(DarkLeavers x, String text) {
        int answer = x.count(7);
        for (int from = 0; from < text.length(); from += 8) {
            int n = Math.min(8, text.length() - from);
            long v = 0;
            for (int i = 0; i < n; i++) {
                v = (v << 8) | (text.charAt(from + i) & 255);
            }
            answer = x.type(v, n);
        }
        return answer;
    }

    static DarkLeavers told(String text) {
        DarkLeavers x = new DarkLeavers();
        typeAll(x, text);
        x.hall();
        return x;
    }
}
