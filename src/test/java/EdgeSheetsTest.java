/** What Terms 3 and Promises 24 .. 28 say of SHEETS and of those who are taken for a KIND, at their edges. */
public final class EdgeSheetsTest {
    private static final int NONE = -1, BAD = -2;
    private static final int NOTHING = -11, OUTSIDE = -12, OTHER_SORT = -13, BELOW_ZERO = -14;
    private static final int MIN = Integer.MIN_VALUE, MAX = Integer.MAX_VALUE;
    private static final Check check = new Check();

    private static void due(String call, long got, long want) {
        check.due(call, got, want);
    }

    public static void main(String[] args) {
        missingAtFirst();
        sizes();
        allZero();
        missingAgain();
        sheetRefused();
        cells();
        bytes();
        shorts();
        ints();
        copySizes();
        copyWithin();
        copyOfNone();
        copyWraps();
        copyOfSorts();
        copyRefused();
        clerksThreeByThree();
        clerksOutside();
        clerksLeftOut();
        clerksOfNone();
        clerksOfSorts();
        clerksAsTheSortHolds();
        taken();
        takenRefused();
        check.end("EdgeSheetsTest");
    }

    // Where a wish is worth 1 and none is worth 0, a row of eight that tells it is its own bits.
    private static NotBothInAugust reader() {
        NotBothInAugust x = Check.shop(0);
        due("rule", Check.rule(x, "joys 1;earns 1;may 1;"), 1);
        return x;
    }

    // ---- "SHEETS 0 .. 3 .. missing (as all are at first)"

    private static void missingAtFirst() {
        check.part("missing at first");
        for (int sheet = 0; sheet < 4; sheet++) {
            NotBothInAugust x = Check.shop(0);
            due("cell", x.cell(sheet, 0, 0), NOTHING);
            due("tells", x.tells(sheet, 0, 0), NOTHING);
            due("copy", x.copy(sheet, 0, sheet, 0, 0), NOTHING);
            for (int sort = 0; sort <= 2; sort++) {
                due("clerks", x.clerks(sheet, sort, 0, 1), NOTHING);
                due("clerks, none asked", x.clerks(sheet, sort, 0, 0), NOTHING);
            }
        }
    }

    // ---- Promise 24: "a row of n of a sort", 0 .. 40

    private static void sizes() {
        check.part("24 sheet, each size");
        for (int sort = 0; sort <= 2; sort++) {
            for (int n = 0; n <= 40; n++) {
                NotBothInAugust x = new NotBothInAugust();
                due("sheet", x.sheet(sort, sort, n), 1);
                for (int i = 0; i < n; i++) {
                    due("item", x.cell(sort, i, i), 1);
                }
                due("one more", x.cell(sort, n, 1), OUTSIDE);
                due("one ahead", x.cell(sort, -1, 1), OUTSIDE);
                due("all of it", x.copy(sort, 0, sort, 0, n), n);
                due("one more", x.copy(sort, 0, sort, 0, n + 1), OUTSIDE);
                due("another is missing", x.cell(3, 0, 0), NOTHING);
            }
        }
    }

    // ---- "all 0"

    private static void allZero() {
        check.part("24 sheet, all 0");
        for (int sort = 0; sort <= 2; sort++) {
            NotBothInAugust x = reader();
            due("40", x.sheet(0, sort, 40), 1);
            for (int i = 0; i < 40; i++) {
                x.cell(0, i, 1);
            }
            due("40 anew", x.sheet(0, sort, 40), 1);
            x.sheet(1, sort, 8);
            for (int i = 0; i < 40; i += 8) {
                due("8 from " + i, x.copy(0, i, 1, 0, 8), 8);
                due("all 0", x.tells(1, 0, 4), 0);
            }
            for (int i = 0; i < 8; i++) {
                x.cell(1, i, 1);
            }
            due("all 1", x.tells(1, 0, 4), 255);
            x.sheet(1, sort, 0);
            x.sheet(1, sort, 8);
            due("8 anew", x.tells(1, 0, 4), 0);
        }
    }

    // ---- "or missing (sort -1: n does not matter): 1"

    private static void missingAgain() {
        check.part("24 sheet, missing");
        for (int n : new int[] {0, 1, 40, 41, -1, MIN, MAX}) {
            NotBothInAugust x = Check.shop(0);
            due("missing already", x.sheet(2, -1, n), 1);
            due("it is", x.cell(2, 0, 0), NOTHING);
            x.sheet(2, 0, 8);
            x.sheet(1, 0, 8);
            due("a row", x.cell(2, 7, 0), 1);
            due("missing", x.sheet(2, -1, n), 1);
            due("it is", x.cell(2, 0, 0), NOTHING);
            due("it is", x.copy(2, 0, 1, 0, 0), NOTHING);
            due("it is", x.tells(2, 0, 0), NOTHING);
            due("another isn't", x.cell(1, 7, 0), 1);
            due("a row again", x.sheet(2, 2, 1), 1);
            due("ints", x.clerks(2, 2, 0, 0), 0);
        }
    }

    // ---- "BAD: no such SHEET, sort; n above 40; -14"

    private static void sheetRefused() {
        check.part("24 sheet, refused");
        for (int sort = 0; sort <= 2; sort++) {
            NotBothInAugust x = reader();
            Check.lay(x, 0, 1, 0, 1, 0, 1, 0, 1, 0, 1);
            due("n 41", x.sheet(0, sort, 41), BAD);
            due("n MAX", x.sheet(0, sort, MAX), BAD);
            due("n -1", x.sheet(0, sort, -1), BELOW_ZERO);
            due("n MIN", x.sheet(0, sort, MIN), BELOW_ZERO);
            due("no such sheet ahead of -14", x.sheet(4, sort, -1), BAD);
            due("no such sheet ahead of -14", x.sheet(-1, sort, -1), BAD);
            due("no such sort ahead of -14", x.sheet(0, 3, -1), BAD);
            due("no such sort ahead of -14", x.sheet(0, -2, -1), BAD);
            due("no such sheet, missing", x.sheet(4, -1, 0), BAD);
            due("as it was", x.tells(0, 0, 4), 0b10101010);
            due("shorts", x.clerks(0, 1, 0, 0), 0);
        }
    }

    // ---- Promise 25: "Item i of a SHEET becomes v"

    private static void cells() {
        check.part("25 cell");
        for (int sort = 0; sort <= 2; sort++) {
            NotBothInAugust x = reader();
            x.sheet(3, sort, 8);
            for (int i = 0; i < 8; i++) {
                due("1", x.cell(3, i, 1), 1);
                due("alone", x.tells(3, 0, 4), 1 << i);
                due("behind", x.cell(3, 8, 1), OUTSIDE);
                due("ahead", x.cell(3, -1, 1), OUTSIDE);
                due("far", x.cell(3, MAX, 1), OUTSIDE);
                due("far", x.cell(3, MIN, 1), OUTSIDE);
                due("far", x.cell(3, i + 256, 1), OUTSIDE);
                due("still alone", x.tells(3, 0, 4), 1 << i);
                due("0", x.cell(3, i, 0), 1);
                due("none", x.tells(3, 0, 4), 0);
            }
            x.sheet(3, sort, 0);
            due("of no items", x.cell(3, 0, 1), OUTSIDE);
            x.sheet(3, -1, 0);
            due("missing ahead of outside", x.cell(3, -1, 1), NOTHING);
            due("no such ahead of outside", x.cell(4, -1, 1), BAD);
            due("no such", x.cell(-1, 0, 1), BAD);
        }
    }

    // ---- "(of bytes, shorts its lowest 8, 16 bits)"

    // A parent who wishes for all has joys twice in the weeks 3 .. 5: an even number of -198 .. 198.
    private static void dueHeld(int sort, int v, int held) {
        NotBothInAugust x = new NotBothInAugust();
        x.clerk(1, 0, 1);
        x.set(5, 0, 255);
        Check.rule(x, "joys " + held / 2 + ";earns 1;may 1;");
        due("glad", x.told(0, 23), held);
        int half = held / 2;
        Check.lay(x, 0, sort, half, half, half, v, held, held, half, half);
        due(v + " of " + sort + " is " + held, x.tells(0, 0, 0), NONE);
    }

    private static void dueNotHeld(int sort, int v, int held) {
        NotBothInAugust x = new NotBothInAugust();
        x.clerk(1, 0, 1);
        x.set(5, 0, 255);
        Check.rule(x, "joys " + held / 2 + ";earns 1;may 1;");
        int half = held / 2;
        Check.lay(x, 0, sort, half, half, half, v, half, half, half, half);
        due(v + " of " + sort + " is not " + held, x.tells(0, 0, 0), 3);
    }

    private static void bytes() {
        check.part("25 cell, bytes");
        for (int more : new int[] {0, 256, -256, 512, 1 << 16, 1 << 24, MIN}) {
            for (int v : new int[] {0, 2, 126, -2, -126, -128}) {
                dueHeld(0, v + more, v);
            }
        }
        dueHeld(0, 128, -128);
        dueHeld(0, 254, -2);
        dueHeld(0, -130, 126);
        dueHeld(0, MAX - 1, -2);
        dueNotHeld(0, 128, 128);
        dueNotHeld(0, 198, 198);
        dueNotHeld(0, -130, -130);
        dueNotHeld(0, -198, -198);
        dueNotHeld(0, MAX, 98);
        dueNotHeld(0, 127, 126);
    }

    private static void shorts() {
        check.part("25 cell, shorts");
        for (int more : new int[] {0, 1 << 16, -(1 << 16), 1 << 17, 1 << 24, MIN}) {
            for (int v : new int[] {0, 2, 126, 128, 198, -2, -126, -128, -198}) {
                dueHeld(1, v + more, v);
            }
        }
        dueHeld(1, 65534, -2);
        dueHeld(1, 65536 - 198, -198);
        dueHeld(1, MAX - 1, -2);
        dueNotHeld(1, 256, 0);
        dueNotHeld(1, 258, 2);
        dueNotHeld(1, 254, -2);
        dueNotHeld(1, 32768, 0);
        dueNotHeld(1, 32770, 2);
        dueNotHeld(1, -32768, 0);
    }

    private static void ints() {
        check.part("25 cell, ints");
        for (int v : new int[] {0, 2, 198, -2, -198}) {
            dueHeld(2, v, v);
            for (int more : new int[] {256, 1 << 16, -(1 << 16), 1 << 24, MIN}) {
                dueNotHeld(2, v + more, v);
            }
        }
        dueNotHeld(2, 65534, -2);
        dueNotHeld(2, MAX, -2);
        dueNotHeld(2, MIN, 0);
    }

    // ---- Promise 26: "n numbers of a SHEET, from item i on, come to another one's item j on (as they were): n"

    private static void copySizes() {
        check.part("26 copy");
        for (int n = 0; n <= 8; n++) {
            for (int i = 0; i + n <= 9; i++) {
                for (int j = 0; j + n <= 9; j++) {
                    NotBothInAugust x = reader();
                    Check.lay(x, 0, 2, 1, 1, 0, 1, 0, 0, 1, 0);
                    x.sheet(1, 2, 8);
                    boolean fits = i + n <= 8 && j + n <= 8;
                    due(n + " from " + i + " to " + j, x.copy(0, i, 1, j, n), fits ? n : OUTSIDE);
                    int moved = (0b01001011 >> i & (1 << n) - 1) << j;
                    due("what came", x.tells(1, 0, 4), fits ? moved : 0);
                    due("what was", x.tells(0, 0, 4), 0b01001011);
                }
            }
        }
        NotBothInAugust x = new NotBothInAugust();
        x.sheet(0, 0, 40);
        x.sheet(1, 0, 40);
        due("all 40", x.copy(0, 0, 1, 0, 40), 40);
        due("41", x.copy(0, 0, 1, 0, 41), OUTSIDE);
        due("40 from 1 on", x.copy(0, 1, 1, 0, 40), OUTSIDE);
        due("40 to 1 on", x.copy(0, 0, 1, 1, 40), OUTSIDE);
        due("the last", x.copy(0, 39, 1, 39, 1), 1);
        x.sheet(1, 0, 3);
        due("3 of 40", x.copy(0, 37, 1, 0, 3), 3);
        due("4 of 40, that come to 3", x.copy(0, 36, 1, 0, 4), OUTSIDE);
        due("4 of 3", x.copy(1, 0, 0, 0, 4), OUTSIDE);
    }

    // "(as they were)": within one sheet, too
    private static void copyWithin() {
        check.part("26 copy within one");
        for (int n = 0; n <= 8; n++) {
            for (int i = 0; i + n <= 8; i++) {
                for (int j = 0; j + n <= 8; j++) {
                    NotBothInAugust x = reader();
                    Check.lay(x, 2, 0, 1, 1, 0, 1, 0, 0, 1, 0);
                    due(n + " from " + i + " to " + j, x.copy(2, i, 2, j, n), n);
                    int hole = (1 << n) - 1 << j;
                    int moved = (0b01001011 >> i & (1 << n) - 1) << j;
                    due("as they were", x.tells(2, 0, 4), 0b01001011 & ~hole | moved);
                }
            }
        }
    }

    // ---- n 0: at the ends, not beyond them; "-12 (also with n below 0)"

    private static void copyOfNone() {
        check.part("26 copy of none and fewer");
        for (int size = 0; size <= 40; size += 20) {
            NotBothInAugust x = new NotBothInAugust();
            x.sheet(0, 0, size);
            x.sheet(1, 0, size);
            due("at the ends", x.copy(0, size, 1, size, 0), 0);
            due("at the beginnings", x.copy(0, 0, 1, 0, 0), 0);
            due("beyond the one", x.copy(0, size + 1, 1, 0, 0), OUTSIDE);
            due("beyond the other", x.copy(0, 0, 1, size + 1, 0), OUTSIDE);
            due("ahead of the one", x.copy(0, -1, 1, 0, 0), OUTSIDE);
            due("ahead of the other", x.copy(0, 0, 1, -1, 0), OUTSIDE);
            due("one at the ends", x.copy(0, size, 1, size, 1), OUTSIDE);
            for (int n : new int[] {-1, -2, -40, MIN, MIN + 1}) {
                due("n below 0", x.copy(0, 0, 1, 0, n), OUTSIDE);
                due("n below 0 at the ends", x.copy(0, size, 1, size, n), OUTSIDE);
                due("n below 0 beyond", x.copy(0, size + 1, 1, size + 1, n), OUTSIDE);
            }
        }
    }

    private static void copyWraps() {
        check.part("26 copy, ints that wrap");
        NotBothInAugust x = reader();
        Check.lay(x, 0, 2, 1, 1, 0, 1, 0, 0, 1, 0);
        x.sheet(1, 2, 8);
        int[][] wraps = {{1, 0, MAX}, {0, 1, MAX}, {MAX, 0, 1}, {0, MAX, 1}, {MAX, MAX, MAX}, {8, 8, MAX}, {MAX, 0, 2},
            {MIN, 0, MIN}, {0, MIN, MIN}, {MIN, MIN, 0}, {MAX - 7, 0, 8}, {0, MAX - 7, 8}, {-1, 0, 2}, {0, -1, 2},
            {-8, 0, 8}, {0, -8, 8}, {MIN, 0, 8}, {256, 0, 1}, {0, 256, 1}, {0, 0, 256}, {0, 0, 65536}, {1 << 30, 0, 1 << 30}};
        for (int[] w : wraps) {
            due(w[0] + ", " + w[1] + ", " + w[2], x.copy(0, w[0], 1, w[1], w[2]), OUTSIDE);
        }
        due("nothing came", x.tells(1, 0, 4), 0);
        due("nothing went", x.tells(0, 0, 4), 0b01001011);
    }

    // ---- "BAD: no such SHEET; -11; -13: they are of unlike sorts; -12"

    private static void copyOfSorts() {
        check.part("26 copy, sorts");
        for (int sort = -1; sort <= 2; sort++) {
            for (int other = -1; other <= 2; other++) {
                NotBothInAugust x = new NotBothInAugust();
                x.sheet(1, sort, 4);
                x.sheet(2, other, 4);
                int refusal = sort < 0 || other < 0 ? NOTHING : sort != other ? OTHER_SORT : 0;
                for (int n = 0; n <= 4; n++) {
                    due(sort + " to " + other, x.copy(1, 0, 2, 0, n), refusal == 0 ? n : refusal);
                }
                int outside = refusal == 0 ? OUTSIDE : refusal;
                due("ahead of outside", x.copy(1, 0, 2, 0, 5), outside);
                due("ahead of outside", x.copy(1, -1, 2, 0, 1), outside);
                due("ahead of outside", x.copy(1, 0, 2, MAX, 1), outside);
                due("ahead of n below 0", x.copy(1, 0, 2, 0, -1), outside);
                due("no such ahead of all", x.copy(1, 0, 4, 0, -1), BAD);
                due("no such ahead of all", x.copy(-1, 0, 2, 0, -1), BAD);
            }
        }
    }

    private static void copyRefused() {
        check.part("26 copy, refused");
        NotBothInAugust x = reader();
        Check.lay(x, 0, 2, 1, 1, 0, 1, 0, 0, 1, 0);
        Check.lay(x, 1, 1, 0, 0, 1, 0, 1, 1, 0, 1);
        Check.lay(x, 2, 2, 0, 0, 0, 0, 1, 1, 1, 1);
        due("unlike sorts", x.copy(0, 0, 1, 0, 8), OTHER_SORT);
        due("outside at the end alone", x.copy(0, 0, 2, 1, 8), OUTSIDE);
        due("outside at the end alone", x.copy(0, 1, 2, 0, 8), OUTSIDE);
        due("n below 0", x.copy(0, 4, 2, 4, -4), OUTSIDE);
        due("missing", x.copy(0, 0, 3, 0, 8), NOTHING);
        due("missing", x.copy(3, 0, 0, 0, 8), NOTHING);
        due("as it was", x.tells(0, 0, 4), 0b01001011);
        due("as it was", x.tells(1, 0, 4), 0b10110100);
        due("as it was", x.tells(2, 0, 4), 0b11110000);
        due("missing as it was", x.cell(3, 0, 0), NOTHING);
    }

    // ---- Promise 27: "from one on, three by three (as of clerk()), n of them (0 .. 4)"

    private static void duePerson(NotBothInAugust x, int one, int kind, int number, int length) {
        due("kind of " + one, x.told(one, 7), kind);
        due("number of " + one, x.told(one, 3), number);
        due("length of " + one, x.told(one, 4), length);
        due("wishes of " + one, x.told(one, 5), 0);
        due("points of " + one, x.told(one, 6), 0);
        due("block of " + one, x.told(one, 8), NONE);
    }

    private static final int[] THREES = {0, 5, 1, 1, 0, 4, 2, 3, 3, 5, 9, 2, 4, 1, 4, 1};

    private static boolean isPerson(int at) {
        return THREES[at] <= 5 && THREES[at + 2] >= 1 && THREES[at + 2] <= 4;
    }

    private static void clerksThreeByThree() {
        check.part("27 clerks");
        for (int sort = 0; sort <= 2; sort++) {
            for (int from = 0; from + 12 <= THREES.length; from++) {
                for (int n = 0; n <= 4; n++) {
                    NotBothInAugust x = new NotBothInAugust();
                    Check.lay(x, 1, sort, THREES);
                    int came = 0;
                    int fine = 0;
                    for (int k = 0; k < n; k++) {
                        fine += isPerson(from + 3 * k) ? 1 : 0;
                    }
                    due(n + " from " + from, x.clerks(1, sort, from, n), fine);
                    due("people", x.count(0), fine);
                    for (int k = 0; k < n; k++) {
                        int at = from + 3 * k;
                        if (isPerson(at)) {
                            duePerson(x, came, THREES[at], THREES[at + 1], THREES[at + 2]);
                            came++;
                        }
                    }
                }
            }
        }
    }

    // ---- "-12: what stood ahead came"

    private static void clerksOutside() {
        check.part("27 clerks, outside");
        for (int size = 0; size <= 13; size++) {
            for (int from = 0; from <= size + 1; from++) {
                for (int n = 1; n <= 4; n++) {
                    NotBothInAugust x = new NotBothInAugust();
                    x.sheet(0, 2, size);
                    for (int i = 0; i < size; i++) {
                        x.cell(0, i, 1);
                    }
                    int there = Math.max(0, size - from) / 3;
                    String call = n + " from " + from + " of " + size;
                    due(call, x.clerks(0, 2, from, n), there >= n ? n : OUTSIDE);
                    due("came by " + call, x.count(0), Math.min(n, there));
                }
            }
        }
        NotBothInAugust x = new NotBothInAugust();
        x.sheet(0, 2, 40);
        for (int i = 0; i < 40; i++) {
            x.cell(0, i, 1);
        }
        for (int from : new int[] {-1, -2, -3, -6, -9, -12, MIN, MIN + 1, MAX, MAX - 1, MAX - 2, MAX - 5, MAX - 8, 38, 40, 256}) {
            for (int n = 1; n <= 4; n++) {
                due("from " + from, x.clerks(0, 2, from, n), OUTSIDE);
            }
        }
        due("nobody came", x.count(0), 0);
        due("the last three", x.clerks(0, 2, 37, 1), 1);
        due("the last three and one more", x.clerks(0, 2, 37, 2), OUTSIDE);
        due("who stood ahead came", x.count(0), 2);
        due("no room is no refusal", x.clerks(0, 2, 0, 4), 2);
        due("outside all the same", x.clerks(0, 2, 34, 3), OUTSIDE);
        due("people", x.count(0), 4);
    }

    // ---- "how many came (others are left out)"

    private static void clerksLeftOut() {
        check.part("27 clerks, left out");
        int[][] out = {{-1, 0, 1}, {6, 0, 1}, {0, -1, 1}, {0, 10, 1}, {0, 0, 0}, {0, 0, 5}, {0, 0, -1}};
        for (int sort = 0; sort <= 2; sort++) {
            for (int[] three : out) {
                NotBothInAugust x = new NotBothInAugust();
                Check.lay(x, 3, sort, 5, 9, 4, three[0], three[1], three[2], 1, 0, 1);
                due("left out " + three[0] + three[1] + three[2], x.clerks(3, sort, 0, 3), 2);
                duePerson(x, 0, 5, 9, 4);
                duePerson(x, 1, 1, 0, 1);
                due("that one alone", x.clerks(3, sort, 3, 1), 0);
                due("people", x.count(0), 2);
            }
        }
        for (int n = 0; n <= 4; n++) {
            NotBothInAugust x = new NotBothInAugust();
            for (int one = 0; one < n; one++) {
                x.clerk(0, 0, 1);
            }
            Check.lay(x, 3, 1, 1, 1, 1, 2, 2, 2, 3, 3, 3, 4, 4, 4);
            due("room for " + (4 - n), x.clerks(3, 1, 0, 4), 4 - n);
            for (int one = n; one < 4; one++) {
                duePerson(x, one, one - n + 1, one - n + 1, one - n + 1);
            }
            due("no more room", x.clerks(3, 1, 0, 4), 0);
            due("people", x.count(0), 4);
        }
    }

    private static void clerksOfNone() {
        check.part("27 clerks, none of them");
        NotBothInAugust x = new NotBothInAugust();
        x.sheet(0, 0, 0);
        x.sheet(1, 1, 40);
        due("of no items", x.clerks(0, 0, 0, 0), 0);
        due("of 40", x.clerks(1, 1, 40, 0), 0);
        due("one of no items", x.clerks(0, 0, 0, 1), OUTSIDE);
        due("nobody came", x.count(0), 0);
    }

    // ---- "BAD: no such SHEET, sort, n; -13; -11; -12"

    private static void clerksOfSorts() {
        check.part("27 clerks, sorts");
        for (int sort = -1; sort <= 2; sort++) {
            for (int as = 0; as <= 2; as++) {
                NotBothInAugust x = new NotBothInAugust();
                x.sheet(0, sort, 4);
                int refusal = sort < 0 ? NOTHING : sort != as ? OTHER_SORT : 0;
                int outside = refusal == 0 ? OUTSIDE : refusal;
                due(sort + " as " + as, x.clerks(0, as, 0, 0), refusal);
                due(sort + " as " + as, x.clerks(0, as, 0, 1), refusal);
                due("ahead of outside", x.clerks(0, as, 0, 2), outside);
                due("ahead of outside", x.clerks(0, as, -1, 1), outside);
                due("ahead of outside", x.clerks(0, as, MAX, 4), outside);
                due("no such n ahead of all", x.clerks(0, as, -1, 5), BAD);
                due("no such n ahead of all", x.clerks(0, as, -1, -1), BAD);
                due("no such sheet ahead of all", x.clerks(4, as, -1, 1), BAD);
                due("no such sort ahead of all", x.clerks(0, 3, -1, 1), BAD);
                due("no such sort ahead of all", x.clerks(0, -1, -1, 1), BAD);
                due("nobody came", x.count(0), 0);
            }
        }
    }

    private static void clerksAsTheSortHolds() {
        check.part("27 clerks of what a sort holds");
        int[] more = {256, 1 << 16, MIN, 0};
        int[][] want = {{1, 1, 1, 1}, {0, 1, 1, 1}, {0, 0, 0, 1}};
        for (int sort = 0; sort <= 2; sort++) {
            for (int m = 0; m < more.length; m++) {
                for (int item = 0; item < 3; item++) {
                    NotBothInAugust x = new NotBothInAugust();
                    Check.lay(x, 0, sort, 3, 7, 2);
                    x.cell(0, item, new int[] {3, 7, 2}[item] + more[m]);
                    due(more[m] + " more of " + sort, x.clerks(0, sort, 0, 1), want[sort][m]);
                    if (want[sort][m] == 1) {
                        duePerson(x, 0, 3, 7, 2);
                    }
                }
            }
        }
    }

    // ---- Promise 28: "one of KIND k (0 .. 5), or one under that one (also by others between): the NUMBER"

    private static void taken() {
        check.part("28 taken");
        String[] kinds = {"0", "10", "20", "310", "420", "50"};
        for (int kind = 0; kind <= 5; kind++) {
            for (int number = 0; number <= 9; number++) {
                for (int k = 0; k <= 5; k++) {
                    NotBothInAugust x = new NotBothInAugust();
                    x.clerk(0, 3, 1);
                    x.clerk(kind, 0, 1);
                    x.set(3, 1, number);
                    boolean may = kinds[kind].indexOf('0' + k) >= 0;
                    due(kind + " for " + k, x.taken(1, k), may ? number : OTHER_SORT);
                    due("a clerk for " + k, x.taken(0, k), k == 0 ? 3 : OTHER_SORT);
                }
            }
        }
    }

    // ---- "BAD: k; -11: none such; -13"

    private static void takenRefused() {
        check.part("28 taken, refused");
        for (int n = 0; n <= 4; n++) {
            NotBothInAugust x = new NotBothInAugust();
            for (int one = 0; one < n; one++) {
                x.clerk(1, one, 1);
            }
            for (int one : new int[] {-1, n, MIN, MAX, 256}) {
                due("none such, k 6", x.taken(one, 6), BAD);
                due("none such, k -1", x.taken(one, -1), BAD);
                for (int k = 0; k <= 5; k++) {
                    due("none such", x.taken(one, k), NOTHING);
                }
            }
            if (n > 0) {
                due("the last", x.taken(n - 1, 1), n - 1);
                due("k 6", x.taken(n - 1, 6), BAD);
                due("k -1", x.taken(n - 1, -1), BAD);
                due("another kind", x.taken(n - 1, 5), OTHER_SORT);
            }
        }
    }
}
