/** Counts the answers that are not as due. */
final class Check {
    private int wrong;
    private int asked;
    private String part = "";

    void part(String name) {
        part = name;
    }

    void due(String call, long got, long want) {
        asked++;
        if (got != want) {
            wrong++;
            if (wrong <= 40) {
                System.out.println(part + ": " + call + " answered " + got + ", due is " + want);
            }
        }
    }

    boolean isWrong() {
        return wrong != 0;
    }

    void end(String name) {
        System.out.println(name + ": " + asked + " answers, " + wrong + " not as due");
        if (wrong != 0 || asked == 0) {
            System.exit(1);
        }
    }

    static void feed(NotBothInAugust x, String bytes) {
        for (int i = 0; i < bytes.length(); i++) {
            x.feed(bytes.charAt(i));
        }
    }

    static int text(NotBothInAugust x, String bytes) {
        feed(x, bytes);
        return x.text();
    }
}
