import java.util.function.IntPredicate;

/** Of each number that a call takes: the least and the most that it may be, one beyond each, and far off. */
public final class EdgeNumbersTest {
    private static final int BAD = -2;
    private static final long NO = -4611686018427387904L;
    private static final Check check = new Check();

    private static void due(String call, long got, long want) {
        check.due(call, got, want);
    }

    private static IntPredicate from(int least, int most) {
        return v -> v >= least && v <= most;
    }

    private static void dueFits(String call, Check.Made made, Check.Call asks, IntPredicate fits, long refusal) {
        check.dueFits(call, made, asks, fits, refusal);
    }

    private static void dueBad(String call, Check.Made made, Check.Call asks, int least, int most) {
        dueFits(call, made, asks, from(least, most), BAD);
    }

    public static void main(String[] args) {
        setWhat();
        setEach();
        clerk();
        people();
        apartAndBook();
        toldWhat();
        textsAndTape();
        planned();
        gladness();
        host();
        manyCalls();
        check.end("EdgeNumbersTest");
    }

    private static NotBothInAugust two() {
        return Check.shop(0, 0);
    }

    // ---- Promise 2: set(); Terms: YEAR 0 .. 999, NEEDED 0 .. 4, KEY bits 0 .. 3, NUMBER 0 .. 9, LENGTH 1 .. 4,
    // WISHES bits 0 .. 7, POINTS 0 .. 999

    private static void setWhat() {
        check.part("2 set, what and of");
        dueBad("set(v, 0, 1)", EdgeNumbersTest::two, (x, v) -> x.set(v, 0, 1), 0, 6);
        dueBad("set(v, 0, 1) of nobody", NotBothInAugust::new, (x, v) -> x.set(v, 0, 1), 0, 2);
        for (int what = 0; what <= 2; what++) {
            int w = what;
            dueFits("set(" + w + ", v, 1)", NotBothInAugust::new, (x, v) -> x.set(w, v, 1), v -> true, BAD);
        }
    }

    private static void setEach() {
        int[] least = {0, 0, 0, 0, 1, 0, 0};
        int[] most = {999, 4, 15, 9, 4, 255, 999};
        int[] first = {0, 2, 0, 0, 1, 0, 0};
        for (int what = 0; what <= 6; what++) {
            int w = what;
            check.part("2 set " + what);
            dueBad("set(" + w + ", 1, v)", EdgeNumbersTest::two, (x, v) -> x.set(w, 1, v), least[w], most[w]);
            due("at first", two().told(1, w), first[w]);
            for (int v = least[w]; v <= most[w]; v++) {
                NotBothInAugust x = two();
                due("what it was", x.set(w, 1, v), first[w]);
                due("what it is", x.told(1, w), v);
                due("above is refused", x.set(w, 1, most[w] + 1), BAD);
                due("below is refused", x.set(w, 1, least[w] - 1), BAD);
                due("so it still is", x.set(w, 1, least[w]), v);
                if (w > 2) {
                    due("the other's", x.told(0, w), first[w]);
                }
            }
        }
    }

    // ---- Promise 3: clerk(); Terms: KIND, NUMBER 0 .. 9, LENGTH 1 .. 4

    private static void clerk() {
        check.part("3 clerk");
        dueBad("clerk(v, 0, 1)", EdgeNumbersTest::two, (x, v) -> x.clerk(v, 0, 1), 0, 5);
        dueBad("clerk(0, v, 1)", EdgeNumbersTest::two, (x, v) -> x.clerk(0, v, 1), 0, 9);
        dueBad("clerk(0, 0, v)", EdgeNumbersTest::two, (x, v) -> x.clerk(0, 0, v), 1, 4);
        for (int kind = 0; kind <= 5; kind++) {
            for (int number = 0; number <= 9; number++) {
                for (int weeks = 1; weeks <= 4; weeks++) {
                    NotBothInAugust x = new NotBothInAugust();
                    due("comes", x.clerk(kind, number, weeks), 0);
                    due("kind", x.told(0, 7), kind);
                    due("number", x.told(0, 3), number);
                    due("length", x.told(0, 4), weeks);
                    due("wishes, as one comes", x.told(0, 5), 0);
                    due("points, as one comes", x.told(0, 6), 0);
                    due("block, as one comes", x.told(0, 8), -1);
                }
            }
        }
    }

    // ---- Terms: PEOPLE (4 at most, numbered from 0)

    private static void people() {
        int[] all = {0, 1, 3, 5};
        for (int n = 0; n <= 4; n++) {
            int last = n - 1;
            int[] kinds = java.util.Arrays.copyOf(all, n);
            check.part(n + " people");
            Check.Made made = () -> laid(Check.shop(kinds));
            due("count", made.one().count(0), n);
            due("one more", made.one().clerk(2, 9, 4), n < 4 ? n : -4);
            for (int what = 3; what <= 6; what++) {
                int w = what;
                dueBad("set(" + w + ", v, 1)", made, (x, v) -> x.set(w, v, 1), 0, last);
            }
            for (int what : new int[] {3, 4, 5, 6, 7, 8, 9, 10, 20, 27, 30, 37}) {
                dueFits("told(v, " + what + ")", made, (x, v) -> x.told(v, what), from(0, last), -1000);
            }
            for (int what = 0; what <= 2; what++) {
                int w = what;
                dueFits("told(v, " + w + ")", made, (x, v) -> x.told(v, w), v -> true, -1000);
            }
            dueFits("apart(v, 0, 1)", made, (x, v) -> x.apart(v, 0, 1), v -> v > 0 && v <= last, BAD);
            dueFits("apart(0, v, 1)", made, (x, v) -> x.apart(0, v, 1), v -> v > 0 && v <= last, BAD);
            dueBad("book(v, 0)", made, (x, v) -> x.book(v, 0), 0, last);
            dueBad("bars(v, 0)", made, (x, v) -> x.bars(v, 0), 0, last);
            dueBad("tells(0, v, 0)", made, (x, v) -> x.tells(0, v, 0), 0, last);
            dueBad("film(0, v)", made, (x, v) -> x.film(0, v), 0, last);
            dueFits("taken(v, 0)", made, (x, v) -> x.taken(v, 0), from(0, last), -11);
        }
    }

    // sheet 0 tells 8, sheet 1 tells 3, sheet 2 tells nothing, sheet 3 is missing
    private static NotBothInAugust laid(NotBothInAugust x) {
        x.sheet(0, 2, 8);
        x.sheet(1, 1, 3);
        x.sheet(2, 0, 0);
        return x;
    }

    // ---- Promises 4, 5: apart(), book(); Terms: WEEKS 0 .. 7

    private static void apartAndBook() {
        check.part("4 apart, v");
        dueBad("apart(0, 1, v)", EdgeNumbersTest::two, (x, v) -> x.apart(0, 1, v), 0, 1);
        check.part("5 book, the week");
        dueBad("book(0, v)", EdgeNumbersTest::two, (x, v) -> x.book(0, v), -1, 7);
        for (int week = -1; week <= 7; week++) {
            NotBothInAugust x = two();
            due("none, as one comes", x.book(1, week), -1);
            due("the block", x.told(1, 8), week);
            due("what it was", x.book(1, -1), week);
            due("none again", x.told(1, 8), -1);
        }
    }

    // ---- Promise 6: told()

    private static void toldWhat() {
        check.part("6 told, what");
        IntPredicate fits = v -> v >= 0 && v <= 10 || v >= 20 && v <= 27 || v >= 30 && v <= 37;
        dueFits("told(1, v)", EdgeNumbersTest::two, (x, v) -> x.told(1, v), fits, -1000);
        dueFits("told(0, v) of nobody", NotBothInAugust::new, (x, v) -> x.told(0, v), from(0, 2), -1000);
    }

    // ---- Promises 7, 9, 23: feed(), force(), count(); Terms: 6 TEXTS at most, THE TAPE 160 bytes at most

    private static void textsAndTape() {
        check.part("7 feed");
        dueBad("feed(v)", NotBothInAugust::new, NotBothInAugust::feed, 0, 255);
        for (int texts = 1; texts <= 6; texts++) {
            int n = texts;
            check.part("9 force, " + texts + " texts");
            Check.Made made = () -> {
                NotBothInAugust x = new NotBothInAugust();
                for (int text = 1; text < n; text++) {
                    Check.text(x, "joys 1;earns 1;may 1;");
                }
                return x;
            };
            due("texts", made.one().count(4), texts);
            dueBad("force(v)", made, NotBothInAugust::force, 0, texts - 1);
            for (int text = 0; text < texts; text++) {
                NotBothInAugust x = made.one();
                due("which was", x.force(text), 0);
                due("the rule", x.count(6), text);
                due("which was", x.force(0), text);
            }
        }
        check.part("23 count");
        dueBad("count(v)", EdgeNumbersTest::two, NotBothInAugust::count, 0, 6);
    }

    // ---- Promises 10, 12 .. 15: plan(), best(), inTurn(), change(), bars()

    private static void planned() {
        for (Check.Made made : new Check.Made[] {NotBothInAugust::new, EdgeNumbersTest::two}) {
            check.part("10, 12 .. 14 what, of " + made.one().count(0));
            dueFits("plan(v)", made, NotBothInAugust::plan, v -> v >= 0 && v <= 2 || v >= 10 && v <= 17, -100000);
            dueFits("best(v)", made, NotBothInAugust::best, from(0, 3), -100000);
            dueFits("inTurn(v)", made, NotBothInAugust::inTurn, from(0, 2), -100000);
            dueFits("change(v)", made, NotBothInAugust::change, from(0, 1), -100000);
        }
        check.part("15 bars, the week");
        dueBad("bars(0, v)", EdgeNumbersTest::two, (x, v) -> x.bars(0, v), 0, 7);
    }

    // ---- Promises 17 .. 20: tells(), film(), drawn(), chance()

    private static NotBothInAugust allEights() {
        NotBothInAugust x = two();
        for (int sheet = 0; sheet < 4; sheet++) {
            x.sheet(sheet, sheet % 3, 8);
        }
        return x;
    }

    private static void gladness() {
        check.part("17 tells");
        dueBad("tells(v, 0, 0)", EdgeNumbersTest::allEights, (x, v) -> x.tells(v, 0, 0), 0, 3);
        dueBad("tells(0, 0, v)", EdgeNumbersTest::allEights, (x, v) -> x.tells(0, 0, v), 0, 5);
        for (int sort = 0; sort <= 2; sort++) {
            int s = sort;
            for (int n = 0; n <= 40; n++) {
                NotBothInAugust x = two();
                x.sheet(1, s, n);
                due("a sheet of " + n, x.tells(1, 0, 0), n == 8 ? 0 : BAD);
            }
        }
        check.part("18 film");
        dueBad("film(v, 0)", EdgeNumbersTest::two, (x, v) -> x.film(v, 0), 0, 3);
        check.part("19 drawn, 20 chance");
        dueFits("drawn(v)", EdgeNumbersTest::two, NotBothInAugust::drawn, v -> true, BAD);
        for (int part = 0; part <= 1; part++) {
            int p = part;
            dueFits("chance(v, 1, " + p + ")", EdgeNumbersTest::two, (x, v) -> x.chance(v, 1, p), v -> true, NO);
            dueFits("chance(0, v, " + p + ")", EdgeNumbersTest::two, (x, v) -> x.chance(0, v, p), from(1, 20), NO);
        }
        dueFits("chance(0, 1, v)", EdgeNumbersTest::two, (x, v) -> x.chance(0, 1, v), from(0, 1), NO);
    }

    // ---- Promises 24 .. 28; Terms: SHEETS 0 .. 3 of sorts 0 .. 2

    private static NotBothInAugust missing() {
        return two();
    }

    private static NotBothInAugust ofFive() {
        NotBothInAugust x = two();
        for (int sheet = 0; sheet < 4; sheet++) {
            x.sheet(sheet, 1, 5);
        }
        return x;
    }

    private static void host() {
        check.part("24 sheet");
        dueBad("sheet(v, 0, 0)", EdgeNumbersTest::missing, (x, v) -> x.sheet(v, 0, 0), 0, 3);
        dueBad("sheet(0, v, 0)", EdgeNumbersTest::missing, (x, v) -> x.sheet(0, v, 0), -1, 2);
        for (int sort = 0; sort <= 2; sort++) {
            int s = sort;
            dueFits("sheet(0, " + s + ", v)", EdgeNumbersTest::missing, (x, v) -> x.sheet(0, s, v), v -> v <= 40, BAD);
            dueFits("sheet(0, " + s + ", v)", EdgeNumbersTest::missing, (x, v) -> x.sheet(0, s, v), v -> v >= 0, -14);
            dueFits("sheet(0, " + s + ", v)", EdgeNumbersTest::missing, (x, v) -> x.sheet(0, s, v),
                v -> v < 0 || v > 40, 1);
        }
        dueFits("sheet(0, -1, v)", EdgeNumbersTest::missing, (x, v) -> x.sheet(0, -1, v), v -> false, 1);
        check.part("25 cell");
        dueBad("cell(v, 0, 0)", EdgeNumbersTest::ofFive, (x, v) -> x.cell(v, 0, 0), 0, 3);
        dueFits("cell(2, v, 0)", EdgeNumbersTest::ofFive, (x, v) -> x.cell(2, v, 0), from(0, 4), -12);
        dueFits("cell(2, 0, v)", EdgeNumbersTest::ofFive, (x, v) -> x.cell(2, 0, v), v -> false, 1);
        check.part("26 copy");
        dueBad("copy(v, 0, 0, 0, 0)", EdgeNumbersTest::ofFive, (x, v) -> x.copy(v, 0, 0, 0, 0), 0, 3);
        dueBad("copy(0, 0, v, 0, 0)", EdgeNumbersTest::ofFive, (x, v) -> x.copy(0, 0, v, 0, 0), 0, 3);
        for (int n = 0; n <= 5; n++) {
            int m = n;
            dueFits("copy(0, v, 1, 0, " + m + ")", EdgeNumbersTest::ofFive, (x, v) -> x.copy(0, v, 1, 0, m),
                from(0, 5 - m), -12);
            dueFits("copy(0, 0, 1, v, " + m + ")", EdgeNumbersTest::ofFive, (x, v) -> x.copy(0, 0, 1, v, m),
                from(0, 5 - m), -12);
            dueFits("copy(0, " + m + ", 1, 0, v)", EdgeNumbersTest::ofFive, (x, v) -> x.copy(0, m, 1, 0, v),
                from(0, 5 - m), -12);
            dueFits("copy(0, 0, 1, " + m + ", v)", EdgeNumbersTest::ofFive, (x, v) -> x.copy(0, 0, 1, m, v),
                from(0, 5 - m), -12);
        }
        check.part("27 clerks");
        dueBad("clerks(v, 1, 0, 0)", EdgeNumbersTest::ofFive, (x, v) -> x.clerks(v, 1, 0, 0), 0, 3);
        dueBad("clerks(0, v, 0, 0)", EdgeNumbersTest::ofFive, (x, v) -> x.clerks(0, v, 0, 0), 0, 2);
        dueBad("clerks(0, 1, 0, v)", EdgeNumbersTest::ofFive, (x, v) -> x.clerks(0, 1, 0, v), 0, 4);
        dueFits("clerks(0, 1, v, 1)", EdgeNumbersTest::ofFive, (x, v) -> x.clerks(0, 1, v, 1), from(0, 2), -12);
        check.part("28 taken, k");
        dueBad("taken(0, v)", EdgeNumbersTest::two, (x, v) -> x.taken(0, v), 0, 5);
        dueBad("taken(9, v)", EdgeNumbersTest::two, (x, v) -> x.taken(9, v), 0, 5);
    }

    // ---- An object is used for at most 512 calls; what comes behind them is free, but goes on without a throw

    private static void manyCalls() {
        check.part("512 calls");
        NotBothInAugust x = Check.shop(0, 0);
        for (int call = 3; call < 512; call++) {
            due("call " + call, x.set(6, 1, call), call == 3 ? 0 : call - 1);
        }
        due("call 512", x.told(1, 6), 511);
        for (int call = 513; call < 2000; call++) {
            x.set(6, 0, call % 1000);
            x.best(call % 4);
            x.feed(call % 256);
            x.text();
        }
    }
}
