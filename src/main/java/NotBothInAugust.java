/**
 * A shop's weeks of leave: who wishes for which, who may be away when, and which plan is best.
 * The document ../shared/DOC.md says what each call promises; words in capitals there are meant here.
 */
public final class NotBothInAugust {
    public static final int NONE = -1, BAD = -2, STATE = -3, FULL = -4;
    public static final long NO = -4611686018427387904L;

    private static final int NOTHING = -11, OUTSIDE = -12, OTHER_SORT = -13, BELOW_ZERO = -14;
    private static final int NOT_TOLD = -1000, NOT_PLANNED = -100000, FAULTY = -100;

    private static final int PEOPLE = 4, WEEKS = 8, DIGITS = WEEKS + 1;
    private static final int KINDS = 6, NUMBERS = 10, MOST_LENGTH = 4;
    private static final int MOST_POINTS = 999, LAST_YEAR = 999;
    private static final int TEXTS = 6, TAPE = 160, SHEETS = 4, ITEMS = 40, MOST_SEEDS = 20;

    private final Shop now = new Shop();
    private final Shop kept = new Shop();
    // What would be is asked of a second shop, so that the first is never touched by a question.
    private final Shop trial = new Shop();
    private boolean isKept;
    private final int[] tape = new int[TAPE];
    private int fed;
    private final Rules rules = new Rules(tape);
    private final Planner planner = new Planner(rules, now);
    private final Sheet[] sheets = new Sheet[SHEETS];

    public NotBothInAugust() {
        for (int sheet = 0; sheet < SHEETS; sheet++) {
            sheets[sheet] = new Sheet();
        }
    }

    // ---- people

    public int set(int what, int of, int v) {
        if (!now.has(what, of) || !now.fits(what, v)) {
            return BAD;
        }
        int was = now.number(what, of);
        now.put(what, of, v);
        return was;
    }

    public int clerk(int kind, int number, int weeks) {
        boolean isPerson = kind >= 0 && kind < KINDS && number >= 0 && number < NUMBERS
            && weeks >= 1 && weeks <= MOST_LENGTH;
        if (!isPerson) {
            return BAD;
        }
        return now.welcome(kind, number, weeks);
    }

    public int apart(int one, int other, int v) {
        if (!now.isOne(one) || !now.isOne(other) || one == other || v < 0 || v > 1) {
            return BAD;
        }
        int was = now.aparts[one] >> other & 1;
        now.setApart(one, other, v == 1);
        return was;
    }

    public int book(int one, int week) {
        if (!now.isOne(one) || week != NONE && !isWeek(week)) {
            return BAD;
        }
        if (!rules.canBe(now, one, week)) {
            return STATE;
        }
        int was = now.blocks[one];
        now.blocks[one] = week;
        return was;
    }

    public int told(int of, int what) {
        if (what <= Shop.POINTS) {
            return now.has(what, of) ? now.number(what, of) : NOT_TOLD;
        }
        if (!now.isOne(of)) {
            return NOT_TOLD;
        }
        switch (what) {
            case 7:
                return now.kinds[of];
            case 8:
                return now.blocks[of];
            case 9:
                return rules.gladness(now, of);
            case 10:
                return rules.earned(now, of);
            default:
                return toldOfWeek(of, what);
        }
    }

    private int toldOfWeek(int one, int what) {
        if (what >= 20 && isWeek(what - 20)) {
            return rules.glad(now, one, what - 20);
        }
        if (what >= 30 && isWeek(what - 30)) {
            return rules.wants(now, one, what - 30) ? 1 : 0;
        }
        return NOT_TOLD;
    }

    // ---- texts

    public int feed(int letter) {
        if (letter < 0 || letter > 255) {
            return BAD;
        }
        if (fed >= tape.length) {
            return FULL;
        }
        tape[fed] = letter;
        fed++;
        return fed;
    }

    public int text() {
        if (rules.size >= TEXTS) {
            return FULL;
        }
        // Room for the next text stands ready; it counts only once it was read without a fault.
        int fault = rules.textAt(rules.size).read(fed);
        fed = 0;
        if (fault != NONE) {
            return FAULTY - fault;
        }
        rules.size++;
        return rules.size - 1;
    }

    public int force(int text) {
        if (text < 0 || text >= rules.size) {
            return BAD;
        }
        int was = now.rule;
        now.rule = text;
        return was;
    }

    // ---- what is booked

    public int plan(int what) {
        boolean isAway = what >= 10 && isWeek(what - 10);
        if (what != 0 && what != 1 && what != 2 && !isAway) {
            return NOT_PLANNED;
        }
        planner.look(now);
        if (isAway) {
            return planner.awayIn(what - 10);
        }
        if (what == 0) {
            return planner.holds() ? 1 : 0;
        }
        return what == 1 ? planner.all() : planner.firstWrongWeek();
    }

    public int year() {
        if (now.year >= LAST_YEAR) {
            return STATE;
        }
        for (int one = 0; one < now.people; one++) {
            now.points[one] = Math.min(MOST_POINTS, now.points[one] + rules.earned(now, one));
            now.blocks[one] = NONE;
        }
        now.year++;
        return now.pointsOfAll();
    }

    // ---- what would be best

    public int best(int what) {
        if (what < 0 || what > 3) {
            return NOT_PLANNED;
        }
        planner.look(now);
        planner.search(what >= 2);
        if (what == 1) {
            return planner.all();
        }
        return what == 3 ? planner.least() : planner.inDigits();
    }

    public int inTurn(int what) {
        if (what < 0 || what > 2) {
            return NOT_PLANNED;
        }
        planner.look(now);
        planner.takeTurns();
        if (what == 0) {
            return planner.inDigits();
        }
        return what == 1 ? planner.all() : planner.withNone();
    }

    public int change(int what) {
        if (what < 0 || what > 1) {
            return NOT_PLANNED;
        }
        planner.look(now);
        int two = planner.changeTwo();
        return what == 0 ? two : planner.all();
    }

    public int bars(int one, int week) {
        if (!now.isOne(one) || !isWeek(week)) {
            return BAD;
        }
        planner.look(now);
        return planner.barring(one, week);
    }

    public int settle() {
        planner.look(now);
        planner.takeTurns();
        for (int one = 0; one < now.people; one++) {
            now.blocks[one] = planner.blockOf(one);
        }
        return planner.all();
    }

    // ---- gladness that was told

    public int tells(int sheet, int one, int what) {
        if (!isSheet(sheet) || !now.isOne(one) || what < 0 || what > 5) {
            return BAD;
        }
        Sheet told = sheets[sheet];
        if (told.isMissing()) {
            return NOTHING;
        }
        if (told.size != WEEKS) {
            return BAD;
        }
        trial.become(now);
        switch (what) {
            case 0:
                return firstOtherwise(told, one);
            case 1:
                return kindsTold(told, one);
            case 2:
                return numbersTold(told, one);
            case 3:
                return wishesTold(told, one);
            case 4:
                return leastWishesTold(told, one);
            default:
                return textsTold(told, one);
        }
    }

    public int film(int sheet, int one) {
        if (!isSheet(sheet) || !now.isOne(one)) {
            return BAD;
        }
        Sheet row = sheets[sheet];
        row.lay(Sheet.SHORTS, WEEKS);
        for (int week = 0; week < WEEKS; week++) {
            row.put(week, rules.glad(now, one, week));
        }
        return WEEKS;
    }

    public int drawn(int seed) {
        drawWishes(seed);
        planner.look(trial);
        planner.takeTurns();
        return planner.all();
    }

    public long chance(int seed, int m, int part) {
        if (m < 1 || m > MOST_SEEDS || part < 0 || part > 1) {
            return NO;
        }
        int happy = 0;
        for (int i = 0; i < m; i++) {
            drawWishes(seed + i);
            planner.look(trial);
            planner.takeTurns();
            if (planner.withNone() == 0) {
                happy++;
            }
        }
        int common = commonDivisor(m, happy);
        int asked = part == 0 ? happy : m;
        return common > 0 ? asked / common : NO;
    }

    public int image() {
        kept.become(now);
        isKept = true;
        return now.people;
    }

    public int back() {
        if (!isKept) {
            return STATE;
        }
        now.become(kept);
        return now.people;
    }

    public int count(int what) {
        switch (what) {
            case 0:
                return now.people;
            case 1:
                return now.booked();
            case 2:
                return now.twosApart();
            case 3:
                return now.pointsOfAll();
            case 4:
                return rules.size;
            case 5:
                return fed;
            case 6:
                return now.rule;
            default:
                return BAD;
        }
    }

    private void drawWishes(int seed) {
        trial.become(now);
        int z = seed;
        for (int one = 0; one < trial.people; one++) {
            z = z * 1103515245 + 12345;
            trial.wishes[one] = (z >>> 9) % 256;
        }
    }

    private int firstOtherwise(Sheet told, int one) {
        for (int week = 0; week < WEEKS; week++) {
            if (rules.glad(trial, one, week) != told.items[week]) {
                return week;
            }
        }
        return NONE;
    }

    private int kindsTold(Sheet told, int one) {
        int bits = 0;
        for (int kind = 0; kind < KINDS; kind++) {
            trial.kinds[one] = kind;
            if (firstOtherwise(told, one) == NONE) {
                bits |= 1 << kind;
            }
        }
        return bits;
    }

    private int numbersTold(Sheet told, int one) {
        int bits = 0;
        for (int number = 0; number < NUMBERS; number++) {
            trial.numbers[one] = number;
            if (firstOtherwise(told, one) == NONE) {
                bits |= 1 << number;
            }
        }
        return bits;
    }

    private int textsTold(Sheet told, int one) {
        int bits = 0;
        for (int text = 0; text < rules.size; text++) {
            trial.rule = text;
            if (firstOtherwise(told, one) == NONE) {
                bits |= 1 << text;
            }
        }
        return bits;
    }

    // What one is glad of in a week hangs on that week's own wish alone, so the weeks are told apart.
    private int wishesTold(Sheet told, int one) {
        int ways = 1;
        for (int week = 0; week < WEEKS; week++) {
            int here = 0;
            here += isSoIfWished(told, one, week, false) ? 1 : 0;
            here += isSoIfWished(told, one, week, true) ? 1 : 0;
            ways *= here;
        }
        return ways;
    }

    private int leastWishesTold(Sheet told, int one) {
        int least = 0;
        for (int week = 0; week < WEEKS; week++) {
            if (isSoIfWished(told, one, week, false)) {
                continue;
            }
            if (!isSoIfWished(told, one, week, true)) {
                return NONE;
            }
            least |= 1 << week;
        }
        return least;
    }

    private boolean isSoIfWished(Sheet told, int one, int week, boolean wished) {
        trial.wishes[one] = wished ? 1 << week : 0;
        return rules.glad(trial, one, week) == told.items[week];
    }

    private static int commonDivisor(int one, int other) {
        int a = one;
        int b = other;
        // Euclid's steps over numbers up to 20 are few; the bound is only there to be seen.
        for (int step = 0; step < 100 && b != 0; step++) {
            int rest = a % b;
            a = b;
            b = rest;
        }
        return a;
    }

    // ---- the host

    public int sheet(int sheet, int sort, int n) {
        if (!isSheet(sheet) || sort != NONE && !Sheet.isSort(sort)) {
            return BAD;
        }
        if (sort == NONE) {
            sheets[sheet].lay(NONE, 0);
            return 1;
        }
        if (n > ITEMS) {
            return BAD;
        }
        if (n < 0) {
            return BELOW_ZERO;
        }
        sheets[sheet].lay(sort, n);
        return 1;
    }

    public int cell(int sheet, int i, int v) {
        if (!isSheet(sheet)) {
            return BAD;
        }
        Sheet row = sheets[sheet];
        if (row.isMissing()) {
            return NOTHING;
        }
        if (!row.reaches(i, 1)) {
            return OUTSIDE;
        }
        row.put(i, v);
        return 1;
    }

    public int copy(int sheet, int i, int other, int j, int n) {
        if (!isSheet(sheet) || !isSheet(other)) {
            return BAD;
        }
        Sheet from = sheets[sheet];
        Sheet to = sheets[other];
        if (from.isMissing() || to.isMissing()) {
            return NOTHING;
        }
        if (from.sort != to.sort) {
            return OTHER_SORT;
        }
        if (!from.reaches(i, n) || !to.reaches(j, n)) {
            return OUTSIDE;
        }
        System.arraycopy(from.items, i, to.items, j, n);
        return n;
    }

    public int clerks(int sheet, int sort, int from, int n) {
        if (!isSheet(sheet) || !Sheet.isSort(sort) || n < 0 || n > PEOPLE) {
            return BAD;
        }
        Sheet row = sheets[sheet];
        // One that is missing is of no other sort.
        if (!row.isMissing() && row.sort != sort) {
            return OTHER_SORT;
        }
        if (row.isMissing()) {
            return NOTHING;
        }
        int came = 0;
        for (int person = 0; person < n; person++) {
            int at = from + 3 * person;
            if (!row.reaches(at, 3)) {
                return OUTSIDE;
            }
            if (clerk(row.items[at], row.items[at + 1], row.items[at + 2]) >= 0) {
                came++;
            }
        }
        return came;
    }

    public int taken(int one, int k) {
        if (k < 0 || k >= KINDS) {
            return BAD;
        }
        if (!now.isOne(one)) {
            return NOTHING;
        }
        return rules.isKind(now.kinds[one], k) ? now.numbers[one] : OTHER_SORT;
    }

    private static boolean isWeek(int week) {
        return week >= 0 && week < WEEKS;
    }

    private static boolean isSheet(int sheet) {
        return sheet >= 0 && sheet < SHEETS;
    }

    /** All that an image keeps. Rows have a place for each of the people that there can be. */
    private static final class Shop {
        static final int YEAR = 0, NEEDED = 1, KEY = 2, NUMBER = 3, LENGTH = 4, WISHES = 5, POINTS = 6;
        private static final int[] FROM = {0, 0, 0, 0, 1, 0, 0};
        private static final int[] TO = {LAST_YEAR, PEOPLE, 15, NUMBERS - 1, MOST_LENGTH, 255, MOST_POINTS};

        int year;
        int needed = 2;
        int key;
        int rule;
        int people;
        final int[] kinds = new int[PEOPLE];
        final int[] numbers = new int[PEOPLE];
        final int[] lengths = new int[PEOPLE];
        final int[] wishes = new int[PEOPLE];
        final int[] points = new int[PEOPLE];
        final int[] blocks = new int[PEOPLE];
        final int[] aparts = new int[PEOPLE];

        Shop() {
        }

        void become(Shop other) {
            year = other.year;
            needed = other.needed;
            key = other.key;
            rule = other.rule;
            people = other.people;
            for (int one = 0; one < PEOPLE; one++) {
                kinds[one] = other.kinds[one];
                numbers[one] = other.numbers[one];
                lengths[one] = other.lengths[one];
                wishes[one] = other.wishes[one];
                points[one] = other.points[one];
                blocks[one] = other.blocks[one];
                aparts[one] = other.aparts[one];
            }
        }

        boolean isOne(int one) {
            return one >= 0 && one < people;
        }

        /** Whether there is such a number, of the shop or of one of the people. */
        boolean has(int what, int of) {
            return what >= YEAR && what <= KEY || what >= NUMBER && what <= POINTS && isOne(of);
        }

        boolean fits(int what, int v) {
            return what >= 0 && what < FROM.length && what < TO.length && v >= FROM[what] && v <= TO[what];
        }

        int number(int what, int of) {
            switch (what) {
                case YEAR:
                    return year;
                case NEEDED:
                    return needed;
                case KEY:
                    return key;
                default:
                    return isOne(of) ? rowOf(what)[of] : NONE;
            }
        }

        void put(int what, int of, int v) {
            if (what == YEAR) {
                year = v;
            } else if (what == NEEDED) {
                needed = v;
            } else if (what == KEY) {
                key = v;
            } else if (isOne(of)) {
                rowOf(what)[of] = v;
            }
        }

        private int[] rowOf(int what) {
            switch (what) {
                case NUMBER:
                    return numbers;
                case LENGTH:
                    return lengths;
                case WISHES:
                    return wishes;
                default:
                    return points;
            }
        }

        /** The number of the one who comes; FULL. */
        int welcome(int kind, int number, int length) {
            if (people >= PEOPLE) {
                return FULL;
            }
            int one = people;
            people++;
            kinds[one] = kind;
            numbers[one] = number;
            lengths[one] = length;
            wishes[one] = 0;
            points[one] = 0;
            blocks[one] = NONE;
            for (int other = 0; other < people; other++) {
                setApart(one, other, false);
            }
            return one;
        }

        void setApart(int one, int other, boolean isApart) {
            if (!isOne(one) || !isOne(other)) {
                return;
            }
            aparts[one] = isApart ? aparts[one] | 1 << other : aparts[one] & ~(1 << other);
            aparts[other] = isApart ? aparts[other] | 1 << one : aparts[other] & ~(1 << one);
        }

        /** The weeks, as bits, of a block of one's length. */
        int weeksFrom(int one, int week) {
            if (!isOne(one) || !isWeek(week)) {
                return 0;
            }
            return ((1 << lengths[one]) - 1 << week) & (1 << WEEKS) - 1;
        }

        boolean wishesFor(int one, int week) {
            return (wishes[one] >> week & 1) != 0;
        }

        int othersWishing(int one, int week) {
            int others = 0;
            for (int other = 0; other < people; other++) {
                if (other != one) {
                    others += wishes[other] >> week & 1;
                }
            }
            return others;
        }

        /** Whether those (bits) may be away in one week, all others being there. */
        boolean allows(int away) {
            int everyone = (1 << people) - 1;
            int there = everyone & ~away;
            int keys = key & everyone;
            if (Integer.bitCount(there) < Math.min(needed, people) || keys != 0 && (keys & there) == 0) {
                return false;
            }
            for (int one = 0; one < people; one++) {
                if ((away >> one & 1) != 0 && (aparts[one] & away) != 0) {
                    return false;
                }
            }
            return true;
        }

        int booked() {
            int ones = 0;
            for (int one = 0; one < people; one++) {
                ones += blocks[one] != NONE ? 1 : 0;
            }
            return ones;
        }

        int twosApart() {
            int ends = 0;
            for (int one = 0; one < people; one++) {
                ends += Integer.bitCount(aparts[one]);
            }
            return ends / 2;
        }

        int pointsOfAll() {
            int sum = 0;
            for (int one = 0; one < people; one++) {
                sum += points[one];
            }
            return sum;
        }
    }

    /** What a kind makes of what the texts tell. */
    private static class Clerk {
        Clerk() {
        }

        int glad(int week, int joy, boolean wished, int number) {
            return wished ? joy : joy / 2;
        }

        int earns(int points, int gladness) {
            return points;
        }

        boolean wants(int week, boolean may, int number) {
            return may;
        }

        static boolean isSummer(int week) {
            return week >= 3 && week <= 5;
        }
    }

    private static class Parent extends Clerk {
        Parent() {
        }

        int glad(int week, int joy, boolean wished, int number) {
            int asClerk = super.glad(week, joy, wished, number);
            return isSummer(week) ? 2 * asClerk : asClerk;
        }

        int earns(int points, int gladness) {
            return gladness < 30 ? points : 0;
        }
    }

    private static class Single extends Clerk {
        Single() {
        }

        int glad(int week, int joy, boolean wished, int number) {
            return super.glad(week, joy, wished, number) + number;
        }

        int earns(int points, int gladness) {
            return points + 2;
        }

        boolean wants(int week, boolean may, int number) {
            return !isSummer(week) && may;
        }
    }

    private static final class Bride extends Parent {
        Bride() {
        }

        int glad(int week, int joy, boolean wished, int number) {
            return week == number % WEEKS ? 30 : super.glad(week, joy, wished, number);
        }

        boolean wants(int week, boolean may, int number) {
            return super.wants(week, may, number) || week == number % WEEKS;
        }
    }

    private static final class Boss extends Single {
        Boss() {
        }

        int glad(int week, int joy, boolean wished, int number) {
            return super.glad(week, joy, wished, number) - week;
        }

        int earns(int points, int gladness) {
            return 0;
        }

        boolean wants(int week, boolean may, int number) {
            return true;
        }
    }

    private static final class Apprentice extends Clerk {
        Apprentice() {
        }

        int glad(int week, int joy, boolean wished, int number) {
            return wished ? 5 : 0;
        }

        int earns(int points, int gladness) {
            return super.earns(points, gladness) / 2;
        }

        boolean wants(int week, boolean may, int number) {
            return may && week % 2 == 0;
        }
    }

    /**
     * A text, worked off on a stack: numbers stand as they are, names and signs as numbers below 0,
     * so that no byte of the tape needs more than one place. It is read from the tape one token ahead;
     * at a fault the token becomes one that stands nowhere, by which every open reading ends.
     */
    private static final class Text {
        static final int JOYS = 0, EARNS = 1, MAY = 2;
        static final int WEEK = 0, WISHED = 1, NUMBER = 2, LENGTH = 3, POINTS = 4, AWAY = 5, NAMES = 6;
        static final int MINUS = -7, NOT = -8;
        static final int ADD = -9, LESS_BY = -10, TIMES = -11, BELOW = -12, SAME = -13, AND = -14, OR = -15;
        private static final int PARTS = 3;
        // Tokens: a sign is its byte, a key that begins a part is A_KEY and the part's number.
        private static final int A_KEY = 256, AN_OR = 259, AN_AND = 260, A_NOT = 261;
        private static final int A_NAME = 262, A_NUMBER = 263, THE_END = 264, NO_TOKEN = 265;
        private static final int MOST_OPEN = 5, MOST_NUMERALS = 4;

        private final int[] code = new int[TAPE];
        private final int[] ends = new int[PARTS];
        private int size;
        private int parts;
        private final int[] tape;
        private int fed;
        private int next;
        private int place;
        private int token;
        private int value;
        private int open;
        private int fault;

        Text(int[] tape) {
            this.tape = tape;
        }

        void add(int item) {
            if (size < code.length) {
                code[size] = item;
                size++;
            }
        }

        void addName(int name) {
            add(-1 - name);
        }

        void endPart() {
            if (parts < PARTS) {
                ends[parts] = size;
                parts++;
            }
        }

        int value(int part, int[] names, int[] stack) {
            if (part < 0 || part >= parts) {
                return 0;
            }
            int top = 0;
            int end = Math.min(ends[part], code.length);
            for (int at = part > 0 ? ends[part - 1] : 0; at < end; at++) {
                int item = code[at];
                if (item > MINUS) {
                    if (top < stack.length) {
                        stack[top] = operand(item, names);
                        top++;
                    }
                } else if (item >= NOT) {
                    if (top >= 1) {
                        stack[top - 1] = turned(item, stack[top - 1]);
                    }
                } else if (top >= 2) {
                    top--;
                    stack[top - 1] = joined(item, stack[top - 1], stack[top]);
                }
            }
            return top > 0 ? stack[0] : 0;
        }

        private static int operand(int item, int[] names) {
            if (item >= 0) {
                return item;
            }
            int name = -1 - item;
            return name < names.length ? names[name] : 0;
        }

        private static int turned(int sign, int a) {
            if (sign == MINUS) {
                return -a;
            }
            return a == 0 ? 1 : 0;
        }

        private static int joined(int sign, int a, int b) {
            switch (sign) {
                case ADD:
                    return a + b;
                case LESS_BY:
                    return a - b;
                case TIMES:
                    return a * b;
                case BELOW:
                    return a < b ? 1 : 0;
                case SAME:
                    return a == b ? 1 : 0;
                case AND:
                    return a != 0 && b != 0 ? 1 : 0;
                default:
                    return a != 0 || b != 0 ? 1 : 0;
            }
        }

        /** Becomes what the first n bytes of the tape tell: the place of the fault; NONE. */
        int read(int n) {
            fed = Math.max(0, Math.min(n, tape.length));
            size = 0;
            parts = 0;
            next = 0;
            open = 0;
            fault = NONE;
            advance();
            for (int part = 0; part < PARTS; part++) {
                take(A_KEY + part);
                readEither();
                take(';');
                endPart();
            }
            if (token != THE_END) {
                fail();
            }
            return fault;
        }

        private void readEither() {
            readBoth();
            for (int n = 0; n < TAPE && token == AN_OR; n++) {
                advance();
                readBoth();
                add(OR);
            }
        }

        private void readBoth() {
            readNot();
            for (int n = 0; n < TAPE && token == AN_AND; n++) {
                advance();
                readNot();
                add(AND);
            }
        }

        private void readNot() {
            if (token != A_NOT) {
                readComparison();
            } else if (openOne()) {
                readNot();
                open--;
                add(NOT);
            }
        }

        private void readComparison() {
            readSum();
            if (token == '<' || token == '=') {
                int sign = token == '<' ? BELOW : SAME;
                advance();
                readSum();
                add(sign);
            }
        }

        private void readSum() {
            readTerm();
            for (int n = 0; n < TAPE && (token == '+' || token == '-'); n++) {
                int sign = token == '+' ? ADD : LESS_BY;
                advance();
                readTerm();
                add(sign);
            }
        }

        private void readTerm() {
            readOne();
            for (int n = 0; n < TAPE && token == '*'; n++) {
                advance();
                readOne();
                add(TIMES);
            }
        }

        private void readOne() {
            if (token == A_NUMBER) {
                add(value);
                advance();
            } else if (token == A_NAME) {
                addName(value);
                advance();
            } else if (token == '-') {
                if (openOne()) {
                    readOne();
                    open--;
                    add(MINUS);
                }
            } else if (token == '(') {
                if (openOne()) {
                    readEither();
                    take(')');
                    open--;
                }
            } else {
                fail();
            }
        }

        // The document's bound on what is open is also what keeps the reading from going too deep.
        private boolean openOne() {
            if (open >= MOST_OPEN) {
                fail();
                return false;
            }
            open++;
            advance();
            return true;
        }

        private void take(int wanted) {
            if (token == wanted) {
                advance();
            } else {
                fail();
            }
        }

        private void fail() {
            if (fault == NONE) {
                fault = place;
            }
            token = NO_TOKEN;
        }

        private void advance() {
            while (next < fed && isBlank(next)) {
                next++;
            }
            place = next;
            if (next >= fed) {
                token = THE_END;
            } else if (isLetter(next)) {
                advanceOverWord();
            } else if (isNumeral(next)) {
                advanceOverNumber();
            } else if (isSign(next)) {
                token = tape[next];
                next++;
            } else {
                fail();
            }
        }

        private void advanceOverWord() {
            while (next < fed && isLetter(next)) {
                next++;
            }
            token = key();
            if (token == A_NAME) {
                value = name();
                if (value == NONE) {
                    fail();
                }
            }
        }

        private void advanceOverNumber() {
            value = 0;
            while (next < fed && isNumeral(next)) {
                value = value * 10 + tape[next] - '0';
                next++;
            }
            token = A_NUMBER;
            if (next - place > MOST_NUMERALS) {
                fail();
            }
        }

        private int key() {
            if (isWord("joys")) {
                return A_KEY + JOYS;
            }
            if (isWord("earns")) {
                return A_KEY + EARNS;
            }
            if (isWord("may")) {
                return A_KEY + MAY;
            }
            if (isWord("or")) {
                return AN_OR;
            }
            if (isWord("and")) {
                return AN_AND;
            }
            return isWord("not") ? A_NOT : A_NAME;
        }

        private int name() {
            if (isWord("week")) {
                return WEEK;
            }
            if (isWord("wished")) {
                return WISHED;
            }
            if (isWord("number")) {
                return NUMBER;
            }
            if (isWord("length")) {
                return LENGTH;
            }
            if (isWord("points")) {
                return POINTS;
            }
            return isWord("away") ? AWAY : NONE;
        }

        private boolean isWord(String word) {
            if (next - place != word.length()) {
                return false;
            }
            for (int i = 0; i < word.length(); i++) {
                if (tape[place + i] != word.charAt(i)) {
                    return false;
                }
            }
            return true;
        }

        private boolean isBlank(int at) {
            return tape[at] == 32 || tape[at] == 10;
        }

        private boolean isLetter(int at) {
            return tape[at] >= 'a' && tape[at] <= 'z';
        }

        private boolean isNumeral(int at) {
            return tape[at] >= '0' && tape[at] <= '9';
        }

        private boolean isSign(int at) {
            int b = tape[at];
            return b == '(' || b == ')' || b == ';' || b == '+' || b == '-' || b == '*' || b == '<' || b == '=';
        }
    }

    /** The texts and the kinds: what one is glad of, earns and wants in a shop. */
    private static final class Rules {
        private static final int MOST_JOY = 99, MOST_EARNED = 99;

        int size = 1;
        private final Text[] texts = new Text[TEXTS];
        private final Clerk[] kinds = {
            new Clerk(), new Parent(), new Single(), new Bride(), new Boss(), new Apprentice()
        };
        private final int[] names = new int[Text.NAMES];
        private final int[] stack = new int[TAPE];

        Rules(int[] tape) {
            for (int text = 0; text < TEXTS; text++) {
                texts[text] = new Text(tape);
            }
            Text first = texts[0];
            first.add(10);
            first.endPart();
            first.add(3);
            first.endPart();
            first.add(1);
            first.endPart();
        }

        Text textAt(int text) {
            return texts[text >= 0 && text < TEXTS ? text : 0];
        }

        private Clerk kindAt(int kind) {
            return kinds[kind >= 0 && kind < kinds.length ? kind : 0];
        }

        /** Whether one of a kind may be taken for one of another. */
        boolean isKind(int kind, int other) {
            Clerk one = kindAt(kind);
            switch (other) {
                case 0:
                    return true;
                case 1:
                    return one instanceof Parent;
                case 2:
                    return one instanceof Single;
                case 3:
                    return one instanceof Bride;
                case 4:
                    return one instanceof Boss;
                default:
                    return one instanceof Apprentice;
            }
        }

        int glad(Shop shop, int one, int week) {
            nameWeek(shop, one, week);
            int joy = textAt(shop.rule).value(Text.JOYS, names, stack);
            int bounded = Math.max(-MOST_JOY, Math.min(MOST_JOY, joy));
            return kindAt(shop.kinds[one]).glad(week, bounded, shop.wishesFor(one, week), shop.numbers[one]);
        }

        boolean wants(Shop shop, int one, int week) {
            nameWeek(shop, one, week);
            boolean may = textAt(shop.rule).value(Text.MAY, names, stack) != 0;
            return kindAt(shop.kinds[one]).wants(week, may, shop.numbers[one]);
        }

        /** What one would earn by a year that ended as it is booked. */
        int earned(Shop shop, int one) {
            int gladness = gladness(shop, one);
            nameOne(shop, one);
            int points = textAt(shop.rule).value(Text.EARNS, names, stack);
            int bounded = Math.max(0, Math.min(MOST_EARNED, points));
            return kindAt(shop.kinds[one]).earns(bounded, gladness);
        }

        /** What one has of one's booked block. */
        int gladness(Shop shop, int one) {
            int weeks = shop.weeksFrom(one, shop.blocks[one]);
            int sum = 0;
            for (int week = 0; week < WEEKS; week++) {
                if ((weeks >> week & 1) != 0) {
                    sum += glad(shop, one, week);
                }
            }
            return sum;
        }

        boolean canBe(Shop shop, int one, int first) {
            int weeks = shop.weeksFrom(one, first);
            for (int week = 0; week < WEEKS; week++) {
                if ((weeks >> week & 1) != 0 && !wants(shop, one, week)) {
                    return false;
                }
            }
            return true;
        }

        private void nameWeek(Shop shop, int one, int week) {
            nameOne(shop, one);
            names[Text.WEEK] = week;
            names[Text.WISHED] = shop.wishesFor(one, week) ? 1 : 0;
            names[Text.AWAY] = shop.othersWishing(one, week);
        }

        private void nameOne(Shop shop, int one) {
            names[Text.WEEK] = 0;
            names[Text.WISHED] = 0;
            names[Text.NUMBER] = shop.numbers[one];
            names[Text.LENGTH] = shop.lengths[one];
            names[Text.POINTS] = shop.points[one];
            names[Text.AWAY] = 0;
        }
    }

    /**
     * The plan at hand, a digit for each (0 none, else 1 more than the block's first week), and tables
     * of what each digit would mean for each of a shop's people.
     */
    private static final class Planner {
        // Nobody has more of four weeks.
        private static final int MORE_THAN_ANY = 100000;
        private final Rules rules;
        private Shop shop;
        private final int[] weeks = new int[PEOPLE * DIGITS];
        private final int[] gladness = new int[PEOPLE * DIGITS];
        private final boolean[] canBe = new boolean[PEOPLE * DIGITS];
        private final boolean[] allowed = new boolean[1 << PEOPLE];
        private final int[] glad = new int[WEEKS];
        private final int[] digits = new int[PEOPLE];
        private final int[] found = new int[PEOPLE];
        private final int[] hopes = new int[PEOPLE + 1];
        private boolean isFair;
        private int most;

        Planner(Rules rules, Shop shop) {
            this.rules = rules;
            this.shop = shop;
        }

        /** What is booked there is the plan at hand then. */
        void look(Shop at) {
            shop = at;
            for (int away = 0; away < allowed.length; away++) {
                allowed[away] = shop.allows(away);
            }
            for (int one = 0; one < shop.people; one++) {
                lookAtOne(one);
            }
            takeBooked();
        }

        private void lookAtOne(int one) {
            int wanted = 0;
            for (int week = 0; week < WEEKS; week++) {
                glad[week] = rules.glad(shop, one, week);
                if (rules.wants(shop, one, week)) {
                    wanted |= 1 << week;
                }
            }
            for (int digit = 0; digit < DIGITS; digit++) {
                int at = one * DIGITS + digit;
                weeks[at] = shop.weeksFrom(one, digit - 1);
                canBe[at] = (weeks[at] & ~wanted) == 0;
                gladness[at] = gladnessOf(weeks[at]);
            }
        }

        private int gladnessOf(int bits) {
            int sum = 0;
            for (int week = 0; week < WEEKS; week++) {
                if ((bits >> week & 1) != 0) {
                    sum += glad[week];
                }
            }
            return sum;
        }

        private void takeNone() {
            for (int one = 0; one < PEOPLE; one++) {
                digits[one] = 0;
            }
        }

        private void takeBooked() {
            for (int one = 0; one < shop.people; one++) {
                digits[one] = isWeek(shop.blocks[one]) ? shop.blocks[one] + 1 : 0;
            }
        }

        int blockOf(int one) {
            return shop.isOne(one) ? digits[one] - 1 : NONE;
        }

        private int place(int one) {
            return one * DIGITS + digits[one];
        }

        int inDigits() {
            int number = 0;
            for (int one = 0; one < shop.people; one++) {
                number = 10 * number + digits[one];
            }
            return number;
        }

        int all() {
            int sum = 0;
            for (int one = 0; one < shop.people; one++) {
                sum += gladness[place(one)];
            }
            return sum;
        }

        int least() {
            int least = shop.people > 0 ? gladness[place(0)] : 0;
            for (int one = 1; one < shop.people; one++) {
                least = Math.min(least, gladness[place(one)]);
            }
            return least;
        }

        int withNone() {
            int ones = 0;
            for (int one = 0; one < shop.people; one++) {
                ones += digits[one] == 0 ? 1 : 0;
            }
            return ones;
        }

        int awayIn(int week) {
            int away = 0;
            for (int one = 0; one < shop.people; one++) {
                away |= (weeks[place(one)] >> week & 1) << one;
            }
            return away;
        }

        boolean holds() {
            for (int one = 0; one < shop.people; one++) {
                if (!canBe[place(one)]) {
                    return false;
                }
            }
            return firstWrongWeek() == NONE;
        }

        int firstWrongWeek() {
            for (int week = 0; week < WEEKS; week++) {
                if (!allowed[awayIn(week)]) {
                    return week;
                }
            }
            return NONE;
        }

        // A plan that holds does so with fewer away as well, so only the added one's weeks are looked at.
        private int weeksClosedTo(int one) {
            int closed = 0;
            for (int week = 0; week < WEEKS; week++) {
                if (!allowed[awayIn(week) | 1 << one]) {
                    closed |= 1 << week;
                }
            }
            return closed;
        }

        private boolean canAdd(int at, int closed) {
            return canBe[at] && (weeks[at] & closed) == 0;
        }

        /** The best plan, or the fairest, is the plan at hand then. */
        void search(boolean fair) {
            isFair = fair;
            // The first plan of all is that of none; it holds, and all have 0 of it.
            most = 0;
            for (int one = 0; one < PEOPLE; one++) {
                found[one] = 0;
            }
            takeNone();
            takeHopes();
            extend(0, 0, MORE_THAN_ANY);
            for (int one = 0; one < PEOPLE; one++) {
                digits[one] = found[one];
            }
        }

        // What those from one on would have, were each alone: no plan gives them more.
        private void takeHopes() {
            hopes[shop.people] = 0;
            for (int one = shop.people - 1; one >= 0; one--) {
                int own = 0;
                for (int at = one * DIGITS; at < (one + 1) * DIGITS; at++) {
                    own = canBe[at] ? Math.max(own, gladness[at]) : own;
                }
                hopes[one] = hopes[one + 1] + own;
            }
        }

        private void extend(int one, int sum, int least) {
            if (one > PEOPLE) {
                return;
            }
            // Of like plans the first is wanted, so what can't be more than the one found is left alone.
            int hope = isFair ? least : sum + hopes[one];
            if (hope <= most) {
                return;
            }
            if (one >= shop.people || one >= PEOPLE) {
                keep(hope);
                return;
            }
            int closed = weeksClosedTo(one);
            for (int digit = 0; digit < DIGITS; digit++) {
                int at = one * DIGITS + digit;
                if (canAdd(at, closed)) {
                    digits[one] = digit;
                    extend(one + 1, sum + gladness[at], Math.min(least, gladness[at]));
                }
            }
            digits[one] = 0;
        }

        private void keep(int value) {
            most = value;
            for (int one = 0; one < PEOPLE; one++) {
                found[one] = digits[one];
            }
        }

        /** The plan by turns is the plan at hand then. */
        void takeTurns() {
            takeNone();
            int served = 0;
            for (int turn = 0; turn < shop.people; turn++) {
                int one = nextInTurn(served);
                if (shop.isOne(one)) {
                    digits[one] = gladdest(one);
                    served |= 1 << one;
                }
            }
        }

        private int nextInTurn(int served) {
            int next = NONE;
            for (int one = 0; one < shop.people; one++) {
                boolean waits = (served >> one & 1) == 0;
                if (waits && (next == NONE || shop.points[one] > shop.points[next])) {
                    next = one;
                }
            }
            return next;
        }

        // Having none is having 0, so a block that is no more than that is never taken.
        private int gladdest(int one) {
            int closed = weeksClosedTo(one);
            int row = one * DIGITS;
            int best = 0;
            for (int digit = 1; digit < DIGITS; digit++) {
                if (canAdd(row + digit, closed) && gladness[row + digit] > gladness[row + best]) {
                    best = digit;
                }
            }
            return best;
        }

        /** The two whose change gains most are changed in the plan at hand; NONE: it stays. */
        int changeTwo() {
            int mostOfAll = all();
            int two = NONE;
            for (int one = 0; one < shop.people; one++) {
                for (int other = one + 1; other < shop.people; other++) {
                    swap(one, other);
                    if (all() > mostOfAll && holds()) {
                        mostOfAll = all();
                        two = 10 * one + other;
                    }
                    swap(one, other);
                }
            }
            if (two != NONE) {
                swap(two / 10, two % 10);
            }
            return two;
        }

        private void swap(int one, int other) {
            if (shop.isOne(one) && shop.isOne(other)) {
                int digit = digits[one];
                digits[one] = digits[other];
                digits[other] = digit;
            }
        }

        /** Who stands in the way of one's block in the plan at hand. */
        int barring(int one, int week) {
            if (!shop.isOne(one) || !isWeek(week)) {
                return NONE;
            }
            digits[one] = week + 1;
            if (holds()) {
                return NONE;
            }
            for (int other = 0; other < shop.people; other++) {
                if (other != one && digits[other] != 0 && holdsWithout(other)) {
                    return other;
                }
            }
            return NONE;
        }

        private boolean holdsWithout(int other) {
            int digit = digits[other];
            digits[other] = 0;
            boolean isHeld = holds();
            digits[other] = digit;
            return isHeld;
        }
    }

    /** A row of numbers of a sort, in which a number is kept as that sort can hold it. */
    private static final class Sheet {
        static final int BYTES = 0, SHORTS = 1, INTS = 2;

        int sort = NONE;
        int size;
        final int[] items = new int[ITEMS];

        Sheet() {
        }

        static boolean isSort(int sort) {
            return sort >= BYTES && sort <= INTS;
        }

        boolean isMissing() {
            return sort == NONE;
        }

        void lay(int newSort, int n) {
            sort = newSort;
            size = Math.max(0, Math.min(n, ITEMS));
            for (int i = 0; i < ITEMS; i++) {
                items[i] = 0;
            }
        }

        /** Whether n items from one on are all on it. */
        boolean reaches(int i, int n) {
            return i >= 0 && n >= 0 && i <= size && n <= size - i;
        }

        void put(int i, int v) {
            if (!reaches(i, 1)) {
                return;
            }
            if (sort == BYTES) {
                items[i] = (byte) v;
            } else {
                items[i] = sort == SHORTS ? (short) v : v;
            }
        }
    }
}
