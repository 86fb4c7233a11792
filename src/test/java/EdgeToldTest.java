/** What Terms and Promises 17 .. 23 say of gladness that was told, of seeds, images and counts, at their edges. */
public final class EdgeToldTest {
    private static final int NONE = -1, BAD = -2, STATE = -3, NOTHING = -11;
    private static final int MIN = Integer.MIN_VALUE, MAX = Integer.MAX_VALUE;
    private static final Check check = new Check();

    private static void due(String call, long got, long want) {
        check.due(call, got, want);
    }

    public static void main(String[] args) {
        firstOtherwise();
        kinds();
        numbers();
        wishes();
        toldFarBeside();
        leastWishes();
        texts();
        textsOfKinds();
        toldByNames();
        tellsEight();
        films();
        drawnBySeeds();
        drawnInOrder();
        drawnInTurn();
        chanceOfSeeds();
        chanceInLowestTerms();
        chanceOfAll();
        imageKeeps();
        imageLeaves();
        imageOfPeople();
        imageAnew();
        counts();
        check.end("EdgeToldTest");
    }

    private static NotBothInAugust one(int kind, int number, int wishes) {
        NotBothInAugust x = new NotBothInAugust();
        x.clerk(kind, number, 1);
        x.set(1, 0, 0);
        x.set(5, 0, wishes);
        return x;
    }

    private static void dueTold(String call, NotBothInAugust x, int what, long want) {
        due(call, x.tells(0, 0, what), want);
    }

    // ---- TOLD: "the first that is otherwise; NONE"

    private static void firstOtherwise() {
        check.part("the first that is otherwise");
        for (int sort = 0; sort <= 2; sort++) {
            for (int otherwise = 0; otherwise < 256; otherwise++) {
                NotBothInAugust x = one(0, 0, 0b00100110);
                int[] row = {5, 10, 10, 5, 5, 10, 5, 5};
                for (int week = 0; week < 8; week++) {
                    row[week] += (otherwise >> week & 1) * (week % 2 == 0 ? 1 : -1);
                }
                Check.lay(x, 0, sort, row);
                dueTold("otherwise in " + otherwise, x, 0,
                    otherwise == 0 ? NONE : Integer.numberOfTrailingZeros(otherwise));
                dueTold("the rule, or none", x, 5, otherwise == 0 ? 1 : 0);
            }
        }
    }

    // ---- "KINDS (bits 0 .. 5)"

    private static void kinds() {
        check.part("KINDS");
        for (int kind = 0; kind <= 5; kind++) {
            for (int was = 0; was <= 5; was++) {
                NotBothInAugust x = one(kind, 1, 0b01001010);
                x.film(0, 0);
                // read back of another of another kind, of the same number and wishes
                x.clerk(was, 1, 1);
                x.set(5, 1, 0b01001010);
                due("of kind " + kind + ", by one of " + was, x.tells(0, 1, 1), 1 << kind);
                due("the kind stays", x.told(1, 7), was);
                due("as it is", x.tells(0, 1, 0) == NONE ? 1 : 0, kind == was ? 1 : 0);
            }
        }
        NotBothInAugust x = one(0, 0, 0);
        Check.rule(x, "joys 1;earns 1;may 1;");
        Check.lay(x, 0, 0, 0, 0, 0, 0, 0, 0, 0, 0);
        dueTold("a clerk, a parent, a single, an apprentice", x, 1, 0b100111);
        Check.lay(x, 0, 0, 30, 0, 0, 0, 0, 0, 0, 0);
        dueTold("a bride of 0", x, 1, 0b001000);
        Check.lay(x, 0, 0, 0, -1, -2, -3, -4, -5, -6, -7);
        dueTold("a boss of 0", x, 1, 0b010000);
        Check.lay(x, 0, 0, 0, 0, 0, 0, 0, 0, 0, 1);
        dueTold("none", x, 1, 0);
    }

    // ---- "NUMBERS (bits 0 .. 9)"

    private static void numbers() {
        check.part("NUMBERS");
        for (int number = 0; number <= 9; number++) {
            for (int kind : new int[] {2, 4}) {
                NotBothInAugust x = one(kind, number, 3);
                x.film(0, 0);
                x.set(3, 0, 9 - number);
                dueTold("of kind " + kind, x, 2, 1 << number);
                due("the number stays", x.told(0, 3), 9 - number);
            }
            NotBothInAugust bride = one(3, number, 3);
            bride.film(0, 0);
            bride.set(3, 0, 5);
            int week = number % 8;
            dueTold("a bride of " + number, bride, 2, 1 << week | (week < 2 ? 1 << week + 8 : 0));
            NotBothInAugust clerk = one(0, number, 3);
            clerk.film(0, 0);
            dueTold("any number", clerk, 2, 1023);
            clerk.cell(0, 7, 6);
            dueTold("no number", clerk, 2, 0);
        }
    }

    // ---- "WISHES (of 0 .. 255: how many, the least)"

    private static void wishes() {
        check.part("WISHES");
        for (int wishes = 0; wishes < 256; wishes++) {
            NotBothInAugust x = one(0, 0, wishes);
            x.film(0, 0);
            x.set(5, 0, 255 - wishes);
            dueTold("one alone", x, 3, 1);
            dueTold("the least", x, 4, wishes);
            due("the wishes stay", x.told(0, 5), 255 - wishes);
        }
        NotBothInAugust x = one(0, 0, 77);
        Check.rule(x, "joys 0;earns 1;may 1;");
        Check.lay(x, 0, 0, 0, 0, 0, 0, 0, 0, 0, 0);
        dueTold("all 256", x, 3, 256);
        dueTold("the least of all", x, 4, 0);
        x.cell(0, 3, 1);
        dueTold("none", x, 3, 0);
        dueTold("no least", x, 4, NONE);
    }

    // what is told is no byte and no short: 256 or 65536 beside GLAD is otherwise, by wishes, numbers, kinds and texts
    private static void toldFarBeside() {
        check.part("TOLD far beside GLAD");
        for (int beside : new int[] {256, -256, 65536, -65536, 1 << 30, MIN}) {
            for (int week = 0; week < 8; week++) {
                NotBothInAugust x = one(0, 0, 0b10101010);
                x.film(0, 0);
                x.sheet(1, 2, 8);
                for (int w = 0; w < 8; w++) {
                    x.cell(1, w, x.told(0, 20 + w) + (w == week ? beside : 0));
                }
                int[] want = {week, 0, 0, 0, NONE, 0};
                // a single of number 0 is as glad as a clerk
                int[] film = {NONE, 0b101, 1023, 1, 0b10101010, 1};
                for (int what = 0; what <= 5; what++) {
                    due("beside in " + week + ", " + what, x.tells(1, 0, what), want[what]);
                    due("not beside, " + what, x.tells(0, 0, what), film[what]);
                }
            }
        }
    }

    private static void leastWishes() {
        check.part("WISHES of some WEEKS");
        // in the weeks below n joys tell 0, wished or not
        for (int n = 0; n <= 8; n++) {
            NotBothInAugust x = one(0, 0, 0);
            due("rule", Check.rule(x, "joys 10*(not week<" + n + ");earns 1;may 1;"), 1);
            int[] row = new int[8];
            for (int week = n; week < 8; week++) {
                row[week] = 10;
            }
            Check.lay(x, 0, 2, row);
            dueTold("how many", x, 3, 1 << n);
            dueTold("the least", x, 4, 255 - ((1 << n) - 1));
        }
        // a bride's own week tells nothing of her wish
        NotBothInAugust bride = one(3, 7, 255);
        bride.film(0, 0);
        dueTold("two", bride, 3, 2);
        dueTold("the least", bride, 4, 127);
        // joys tell of wished too: 2, or half of 4; then 1, or half of 4
        NotBothInAugust x = one(0, 0, 0);
        Check.rule(x, "joys 4-2*wished;earns 1;may 1;");
        Check.lay(x, 0, 1, 2, 2, 2, 2, 2, 2, 2, 2);
        dueTold("all 256", x, 3, 256);
        Check.rule(x, "joys 4-3*wished;earns 1;may 1;");
        dueTold("none wished", x, 3, 1);
        dueTold("0 the least", x, 4, 0);
        Check.lay(x, 0, 1, 1, 1, 1, 1, 1, 1, 1, 1);
        dueTold("all wished", x, 3, 1);
        dueTold("255 the least", x, 4, 255);
    }

    // ---- "TEXTS (bits), were they THE RULE"

    private static void texts() {
        check.part("TEXTS");
        NotBothInAugust x = one(0, 0, 0);
        Check.lay(x, 0, 0, 5, 5, 5, 5, 5, 5, 5, 5);
        int[] joys = {10, 11, 9, 10, 12, 10};
        int bits = 0;
        for (int text = 0; text < 6; text++) {
            if (text > 0) {
                Check.text(x, "joys " + joys[text] + ";earns 1;may 0;");
            }
            bits |= joys[text] / 2 == 5 ? 1 << text : 0;
            dueTold("of " + (text + 1), x, 5, bits);
        }
        due("all but 2 and 4", bits, 0b101011);
        x.force(4);
        dueTold("whichever is the rule", x, 5, bits);
        dueTold("by the rule", x, 0, 0);
        due("the rule stays", x.count(6), 4);
        x.set(5, 0, 128);
        dueTold("none tells 5 of a wished week", x, 5, 0);
        x.cell(0, 7, 10);
        dueTold("0, 3 and 5 tell 10 of it", x, 5, 0b101001);
    }

    // of each kind by its own GLAD: what an apprentice has is the same by any text, the others' isn't
    private static void textsOfKinds() {
        for (int kind = 0; kind <= 5; kind++) {
            NotBothInAugust x = one(kind, 1, 0b00110011);
            Check.text(x, "joys 20;earns 3;may 1;");
            Check.text(x, "joys 10+0*week;earns 9;may 0;");
            Check.text(x, "joys 10+week;earns 3;may 1;");
            int[] alike = {0b0101, 0b0010, 0b0101, 0b1000};
            for (int rule = 0; rule < 4; rule++) {
                x.force(rule);
                x.film(0, 0);
                x.force(3 - rule);
                dueTold("kind " + kind + " by " + rule, x, 5, kind == 5 ? 0b1111 : alike[rule]);
                due("kind", x.told(0, 7), kind);
            }
        }
    }

    // a name tells of the one as one would be: number, wished; away of the others as they are
    private static void toldByNames() {
        check.part("TOLD by NAMES");
        NotBothInAugust x = one(0, 3, 0);
        Check.rule(x, "joys 2*number+20*wished+40*away;earns 1;may 1;");
        x.film(0, 0);
        dueTold("of number 3", x, 2, 1 << 3);
        x.set(5, 0, 255);
        x.film(0, 0);
        x.set(5, 0, 0);
        dueTold("of wishes 255", x, 4, 255);
        x.clerk(0, 3, 1);
        x.set(5, 1, 1);
        dueTold("the other wishes for week 0", x, 0, 0);
        dueTold("so no wish would do", x, 3, 0);
        due("the other would be told it", x.tells(0, 1, 4), 255);
        due("one way", x.tells(0, 1, 3), 1);
    }

    // ---- "BAD: it doesn't tell 8"

    private static void tellsEight() {
        check.part("17 it tells 8");
        for (int sort = 0; sort <= 2; sort++) {
            NotBothInAugust x = one(0, 0, 0);
            for (int what = 0; what <= 5; what++) {
                x.sheet(0, -1, 0);
                dueTold("missing", x, what, NOTHING);
                for (int n : new int[] {0, 7, 9, 40}) {
                    x.sheet(0, sort, n);
                    dueTold("of " + n, x, what, BAD);
                }
                Check.lay(x, 0, sort, 5, 5, 5, 5, 5, 5, 5, 5);
                int[] want = {NONE, 0b000101, 1023, 1, 0, 1};
                dueTold("of 8", x, what, want[what]);
            }
        }
    }

    // ---- Promise 18: "A SHEET truly becomes GLAD of one of WEEKS 0 .. 7 (shorts): 8"

    private static void films() {
        check.part("18 film");
        for (int sheet = 0; sheet < 4; sheet++) {
            for (int sort = -1; sort <= 2; sort++) {
                NotBothInAugust x = one(1, 0, 255);
                Check.rule(x, "joys 99;earns 1;may 1;");
                x.sheet(sheet, sort, 40);
                due("film", x.film(sheet, 0), 8);
                due("it tells", x.tells(sheet, 0, 0), NONE);
                due("198 of shorts", x.told(0, 23), 198);
                due("shorts", x.clerks(sheet, 1, 0, 0), 0);
                due("no bytes", x.clerks(sheet, 0, 0, 0), -13);
                due("no ints", x.clerks(sheet, 2, 0, 0), -13);
                due("the eighth", x.copy(sheet, 7, sheet, 7, 1), 1);
                due("no ninth", x.cell(sheet, 8, 0), -12);
                for (int other = 0; other < 4; other++) {
                    due("others are missing", x.copy(other, 0, other, 0, 0), other == sheet ? 0 : NOTHING);
                }
            }
        }
        NotBothInAugust x = one(1, 0, 255);
        Check.rule(x, "joys -99;earns 1;may 1;");
        due("film", x.film(0, 0), 8);
        dueTold("-198 of shorts", x, 0, NONE);
        x.clerk(0, 0, 1);
        due("film of another", x.film(0, 1), 8);
        due("it tells of the other", x.tells(0, 1, 0), NONE);
        dueTold("it tells not of one", x, 0, 0);
        filmsOfAll();
    }

    // all WEEKS, may they be had or not, booked or not; shorts, though there were 8 of another sort ahead
    private static void filmsOfAll() {
        for (int kind = 0; kind <= 5; kind++) {
            for (int sort = 0; sort <= 2; sort++) {
                for (int week = -1; week < 8; week++) {
                    NotBothInAugust x = one(kind, 2, 0b01011010);
                    Check.lay(x, 0, sort, 90, 91, 92, 93, 94, 95, 96, 97);
                    x.book(0, week);
                    Check.rule(x, "joys 11+7*week;earns 1;may 0;");
                    due("film", x.film(0, 0), 8);
                    due("shorts", x.clerks(0, 1, 0, 0), 0);
                    for (int w = 0; w < 8; w++) {
                        // what one is glad of is told by taking it from the row again
                        x.cell(0, w, x.told(0, 20 + w) + 1);
                        dueTold("otherwise in " + w, x, 0, w);
                        x.cell(0, w, x.told(0, 20 + w));
                        dueTold("none otherwise", x, 0, NONE);
                    }
                }
            }
        }
    }

    // ---- DRAWN: "(z >>> 9) % 256, z being z * 1103515245 + 12345 (an int; SEED at first) anew for each"

    private static final int[] SEEDS = {0, 1, 2, -1, MAX, MIN, 12345, -99999};
    private static final int[][] DRAWN = {{24, 11, 19, 142}, {63, 88, 242, 205}, {102, 165, 208, 13}, {240, 190, 53, 78},
        {240, 190, 53, 78}, {24, 11, 19, 142}, {11, 19, 142, 75}, {182, 28, 26, 37}};

    // Each has 1, 2, 4 or 8 of the one week that may be had, if it is wished.
    private static NotBothInAugust eachBit(int people, int week) {
        NotBothInAugust x = new NotBothInAugust();
        for (int one = 0; one < people; one++) {
            x.clerk(0, 1 << one, 1);
        }
        x.set(1, 0, 0);
        Check.rule(x, "joys wished*number;earns 1;may week=" + week + ";");
        return x;
    }

    private static void drawnBySeeds() {
        check.part("19 drawn");
        for (int people = 0; people <= 4; people++) {
            for (int week = 0; week < 8; week++) {
                NotBothInAugust x = eachBit(people, week);
                for (int s = 0; s < SEEDS.length; s++) {
                    int want = 0;
                    for (int one = 0; one < people; one++) {
                        want += (DRAWN[s][one] >> week & 1) << one;
                    }
                    due("seed " + SEEDS[s] + ", week " + week, x.drawn(SEEDS[s]), want);
                }
                for (int one = 0; one < people; one++) {
                    due("wishes stay", x.told(one, 5), 0);
                    due("not booked", x.told(one, 8), NONE);
                }
            }
        }
    }

    // what was wished before does not count, and the seed is the same each time
    private static void drawnInOrder() {
        check.part("19 drawn, again");
        NotBothInAugust x = eachBit(4, 0);
        for (int one = 0; one < 4; one++) {
            x.set(5, one, 255);
        }
        for (int again = 0; again < 3; again++) {
            for (int s = 0; s < SEEDS.length; s++) {
                int want = DRAWN[s][0] % 2 + 2 * (DRAWN[s][1] % 2) + 4 * (DRAWN[s][2] % 2) + 8 * (DRAWN[s][3] % 2);
                due("seed " + SEEDS[s], x.drawn(SEEDS[s]), want);
            }
        }
        due("wishes stay", x.told(3, 5), 255);
    }

    // ---- "ALL by IN TURN"

    private static void drawnInTurn() {
        check.part("19 drawn, IN TURN");
        // by the seed 0 both wish for week 3, 0 for 4 too, 1 for 0 and 1 too
        NotBothInAugust x = eachBit(2, 3);
        due("both", x.drawn(0), 3);
        x.apart(0, 1, 1);
        due("0 first", x.drawn(0), 1);
        x.set(6, 1, 1);
        due("1 first", x.drawn(0), 2);
        due("points stay", x.told(1, 6), 1);
        x.apart(0, 1, 0);
        x.set(1, 0, 2);
        due("both are needed", x.drawn(0), 0);
    }

    // ---- IN m seeds: "SEED and each 1 more (an int): of these those by which nobody has none"

    private static void chanceOfSeeds() {
        check.part("20 chance");
        // by which seeds week 4 is wished: 0, 1 (63), -1, MAX, MIN; not by 2, 12345
        NotBothInAugust x = eachBit(1, 4);
        int[] seeds = {0, 1, 2, -1, MAX, MIN, 12345};
        int[] want = {1, 1, 0, 1, 1, 1, 0};
        for (int s = 0; s < seeds.length; s++) {
            due("above of " + seeds[s], x.chance(seeds[s], 1, 0), want[s]);
            due("below of " + seeds[s], x.chance(seeds[s], 1, 1), 1);
        }
        due("0, 1, 2", x.chance(0, 3, 0), 2);
        due("0, 1, 2", x.chance(0, 3, 1), 3);
        due("-1, 0, 1, 2", x.chance(-1, 4, 0), 3);
        due("-1, 0, 1, 2", x.chance(-1, 4, 1), 4);
        due("MAX, MIN", x.chance(MAX, 2, 0), 1);
        due("MAX, MIN", x.chance(MAX, 2, 1), 1);
    }

    private static int bitOf(int seed, int week) {
        long z = (seed * 1103515245L + 12345L) & 0xffffffffL;
        return (int) (z / 512 % 256) >> week & 1;
    }

    private static void chanceInLowestTerms() {
        check.part("20 chance, in lowest terms");
        for (int week = 0; week < 8; week += 3) {
            NotBothInAugust x = eachBit(1, week);
            int calls = 0;
            for (int from : new int[] {0, MAX, MAX - 7, MIN, -4, -20}) {
                int above = 0;
                for (int m = 1; m <= 20; m++) {
                    above += bitOf(from + m - 1, week);
                    int common = m;
                    while (above % common != 0 || m % common != 0) {
                        common--;
                    }
                    due("above, " + m + " from " + from, x.chance(from, m, 0), above / common);
                    due("below, " + m + " from " + from, x.chance(from, m, 1), m / common);
                    calls += 2;
                }
            }
            due("calls", calls, 240);
        }
    }

    // ---- "nobody has none": no PEOPLE, one, all of them

    private static void chanceOfAll() {
        check.part("20 chance of all");
        NotBothInAugust nobody = new NotBothInAugust();
        for (int m = 1; m <= 20; m++) {
            due("of nobody", nobody.chance(MAX, m, 0), 1);
            due("of nobody", nobody.chance(MAX, m, 1), 1);
        }
        // by the seed 0: 24, 11, 19, 142, so week 3 is wished by 0, 1 and 3
        for (int people = 1; people <= 4; people++) {
            NotBothInAugust x = eachBit(people, 3);
            due("week 3 of " + people, x.chance(0, 1, 0), people < 3 ? 1 : 0);
            due("below", x.chance(0, 1, 1), 1);
            x.set(1, 0, 4);
            due("all are needed", x.chance(0, 20, 0), 0);
            due("none of 20 is 0 of 1", x.chance(0, 20, 1), 1);
        }
        NotBothInAugust x = eachBit(2, 3);
        x.apart(0, 1, 1);
        due("one has none", x.chance(0, 1, 0), 0);
        NotBothInAugust y = Check.shop(0, 0, 0, 0);
        y.set(1, 0, 3);
        due("all have some", y.chance(MIN, 20, 0), 1);
        due("20 of 20 is 1 of 1", y.chance(MIN, 20, 1), 1);
        due("wishes stay", y.told(0, 5), 0);
    }

    // ---- AN IMAGE keeps YEAR, NEEDED, KEY, NUMBERS, LENGTHS, WISHES, POINTS, BLOCKS, who are APART, THE RULE

    private static void imageKeeps() {
        check.part("21 image, 22 back: each that is kept");
        int[] at = {7, 1, 2, 3, 2, 9, 50};
        int[] then = {8, 4, 13, 4, 3, 6, 51};
        int[] least = {0, 0, 0, 0, 1, 0, 0};
        int[] most = {999, 4, 15, 9, 4, 255, 999};
        imageKeeps(at, then);
        imageKeeps(at, least);
        imageKeeps(at, most);
        imageKeeps(least, most);
        imageKeeps(most, least);
        NotBothInAugust x = lived(at);
        x.image();
        x.book(1, 4);
        x.back();
        dueLived(x, at);
        x.book(1, NONE);
        x.back();
        dueLived(x, at);
        x.book(0, 2);
        x.back();
        dueLived(x, at);
        x.apart(0, 1, 0);
        x.back();
        dueLived(x, at);
        x.force(0);
        x.back();
        dueLived(x, at);
        x.year();
        x.back();
        dueLived(x, at);
        x.settle();
        x.back();
        dueLived(x, at);
        // what is not apart in the image is not apart then
        NotBothInAugust y = Check.shop(0, 0);
        y.image();
        y.apart(0, 1, 1);
        y.back();
        due("not apart", y.count(2), 0);
        due("not apart", y.apart(0, 1, 0), 0);
        due("not apart", y.apart(1, 0, 0), 0);
    }

    private static void imageKeeps(int[] at, int[] then) {
        for (int changed = -1; changed <= 6; changed++) {
            NotBothInAugust x = lived(at);
            due("image", x.image(), 2);
            if (changed >= 0) {
                x.set(changed, 1, then[changed]);
                due("changed", x.told(1, changed), then[changed]);
            }
            due("back", x.back(), 2);
            dueLived(x, at);
        }
    }

    private static NotBothInAugust lived(int[] at) {
        NotBothInAugust x = Check.shop(0, 1);
        Check.rule(x, "joys 8;earns 0;may 1;");
        for (int what = 0; what <= 6; what++) {
            x.set(what, 1, at[what]);
        }
        x.book(1, 6);
        x.apart(0, 1, 1);
        return x;
    }

    private static void dueLived(NotBothInAugust x, int[] at) {
        for (int what = 0; what <= 6; what++) {
            due("told " + what, x.told(1, what), at[what]);
        }
        int[] first = {0, 1, 0, 0};
        for (int what = 3; what <= 6; what++) {
            due("told of 0 " + what, x.told(0, what), first[what - 3]);
        }
        due("kind", x.told(0, 7), 0);
        due("kind", x.told(1, 7), 1);
        due("block", x.told(0, 8), NONE);
        due("block", x.told(1, 8), 6);
        due("twos", x.count(2), 1);
        due("the rule", x.count(6), 1);
        due("people", x.count(0), 2);
    }

    private static void imageLeaves() {
        check.part("22 back: what is not kept");
        NotBothInAugust x = Check.shop(0);
        Check.lay(x, 0, 0, 1, 1, 1, 1, 1, 1, 1, 1);
        x.feed('j');
        x.image();
        x.sheet(0, 2, 3);
        x.sheet(1, 1, 4);
        x.feed('o');
        due("back", x.back(), 1);
        due("ints", x.clerks(0, 2, 0, 0), 0);
        due("three", x.cell(0, 2, 0), 1);
        due("no fourth", x.cell(0, 3, 0), -12);
        due("the other sheet", x.cell(1, 3, 0), 1);
        due("the tape", x.count(5), 2);
        due("a text", Check.text(x, "ys 2;earns 1;may 1;"), 1);
        due("back", x.back(), 1);
        due("texts", x.count(4), 2);
        due("the rule", x.count(6), 0);
        due("the text", x.force(1), 0);
        due("joys", x.told(0, 20), 1);
        due("back", x.back(), 1);
        due("the rule", x.count(6), 0);
    }

    // ---- "(PEOPLE that came since go)"

    private static void imageOfPeople() {
        check.part("22 back: PEOPLE that came since");
        for (int n = 0; n <= 4; n++) {
            NotBothInAugust x = new NotBothInAugust();
            due("no image", x.back(), STATE);
            for (int one = 0; one < n; one++) {
                x.clerk(one, 9, 4);
            }
            due("image", x.image(), n);
            for (int one = n; one < 4; one++) {
                x.clerk(5, 8, 3);
                x.set(5, one, 255);
                x.set(6, one, 999);
                x.book(one, 0);
                for (int other = 0; other < one; other++) {
                    x.apart(one, other, 1);
                }
            }
            due("full", x.clerk(0, 0, 1), -4);
            due("back", x.back(), n);
            due("people", x.count(0), n);
            due("booked", x.count(1), 0);
            due("twos", x.count(2), 0);
            due("points", x.count(3), 0);
            due("gone", x.told(n, 3), -1000);
            for (int one = n; one < 4; one++) {
                due("one comes", x.clerk(1, 2, 1), one);
                int[] want = {2, 1, 0, 0, 1, NONE, 0};
                for (int what = 3; what <= 9; what++) {
                    due("as one comes", x.told(one, what), want[what - 3]);
                }
                for (int other = 0; other < one; other++) {
                    due("not apart", x.apart(one, other, 0), 0);
                }
            }
            due("full again", x.clerk(0, 0, 1), -4);
            due("back again", x.back(), n);
        }
    }

    private static void imageAnew() {
        check.part("21 image anew");
        NotBothInAugust x = Check.shop(0);
        due("image", x.image(), 1);
        x.clerk(0, 0, 1);
        due("image", x.image(), 2);
        x.clerk(0, 0, 1);
        due("back", x.back(), 2);
        x.set(6, 0, 9);
        due("back again", x.back(), 2);
        due("points", x.told(0, 6), 0);
        // what is changed behind a back changes no image
        x.set(6, 0, 9);
        due("image", x.image(), 2);
        x.set(6, 0, 10);
        x.back();
        x.set(6, 0, 11);
        x.back();
        due("points", x.told(0, 6), 9);
    }

    // ---- Promise 23: count(), nothing and all there is room for

    private static void counts() {
        check.part("23 count");
        NotBothInAugust x = new NotBothInAugust();
        int[] first = {0, 0, 0, 0, 1, 0, 0};
        for (int what = 0; what <= 6; what++) {
            due("at first " + what, x.count(what), first[what]);
        }
        for (int one = 0; one < 4; one++) {
            x.clerk(0, 0, 1);
            due("people", x.count(0), one + 1);
            due("none is booked", x.count(1), one);
            x.book(one, one % 2 == 0 ? 0 : 7);
            due("booked", x.count(1), one + 1);
            x.set(6, one, 999);
            due("points", x.count(3), 999 * (one + 1));
        }
        int twos = 0;
        for (int one = 3; one >= 0; one--) {
            for (int other = 0; other < one; other++) {
                x.apart(one, other, 1);
                x.apart(one, other, 1);
                twos++;
                due("twos", x.count(2), twos);
            }
        }
        due("all six", twos, 6);
        for (int text = 1; text <= 5; text++) {
            Check.rule(x, "joys 1;earns 1;may 1;");
            due("texts", x.count(4), text + 1);
            due("the rule", x.count(6), text);
        }
        for (int bytes = 1; bytes <= 161; bytes++) {
            x.feed(0);
            due("bytes", x.count(5), Math.min(bytes, 160));
        }
    }
}
