import java.util.function.IntPredicate;

/** Counts the answers that are not as due. */
final class Check {
    /** One call, of which one number is tried. */
    interface Call {
        long of(NotBothInAugust x, int v);
    }

    /** Makes a new object, as far as a call needs one. */
    interface Made {
        NotBothInAugust one();
    }

    private int wrong;
    private int asked;
    private String part = "";

    void part(String name) {
        part = name;
    }

    void due(String call, long got, long want) {
        asked++;
        if (got != want) {
            wrong++;
            if (wrong <= 40) {
                System.out.println(part + ": " + call + " answered " + got + ", due is " + want);
            }
        }
    }

    /**
     * Each number that doesn't fit is refused, and no other, each on a new object: all numbers near, the least
     * and the most ints, and such as would fit if their higher bits were lost.
     */
    void dueFits(String call, Made made, Call asks, IntPredicate fits, long refusal) {
        for (int v = -60; v <= 1100; v++) {
            dueFit(call, made, asks, v, fits, refusal);
        }
        for (int lost : new int[] {1 << 16, 1 << 24, 1 << 31, 0x7fff0000, 0xffff0000, 3 << 30}) {
            for (int low = -20; low <= 60; low++) {
                dueFit(call, made, asks, lost + low, fits, refusal);
            }
        }
    }

    private void dueFit(String call, Made made, Call asks, int v, IntPredicate fits, long refusal) {
        long got = asks.of(made.one(), v);
        due(call + " is refused of " + v + " (" + got + ")", got == refusal ? 1 : 0, fits.test(v) ? 0 : 1);
    }

    boolean isWrong() {
        return wrong != 0;
    }

    void end(String name) {
        System.out.println(name + ": " + asked + " answers, " + wrong + " not as due");
        if (wrong != 0 || asked == 0) {
            System.exit(1);
        }
    }

    /** A shop with one of each kind told, of number 0, away for one week. */
    static NotBothInAugust shop(int... kinds) {
        NotBothInAugust x = new NotBothInAugust();
        for (int kind : kinds) {
            x.clerk(kind, 0, 1);
        }
        return x;
    }

    static void feed(NotBothInAugust x, String bytes) {
        for (int i = 0; i < bytes.length(); i++) {
            x.feed(bytes.charAt(i));
        }
    }

    static int text(NotBothInAugust x, String bytes) {
        feed(x, bytes);
        return x.text();
    }

    /** A text is the rule: its number, or its fault. */
    static int rule(NotBothInAugust x, String bytes) {
        int text = text(x, bytes);
        x.force(text);
        return text;
    }

    static void lay(NotBothInAugust x, int sheet, int sort, int... row) {
        x.sheet(sheet, sort, row.length);
        for (int i = 0; i < row.length; i++) {
            x.cell(sheet, i, row[i]);
        }
    }
}
