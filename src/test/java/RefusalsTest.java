import java.util.ArrayList;
import java.util.List;

/**
 * Each refusal, in the order in which a call's words name them, and that a refused call changes nothing: an
 * object that refused is then asked for all that can be asked, beside one that never was.
 */
public final class RefusalsTest {
    private static final int BAD = -2, STATE = -3, FULL = -4;
    private static final int NOTHING = -11, OUTSIDE = -12, OTHER_SORT = -13, BELOW_ZERO = -14;
    private static final int NOT_TOLD = -1000, NOT_PLANNED = -100000;
    private static final int MIN = Integer.MIN_VALUE, MAX = Integer.MAX_VALUE;
    private static final long NO = -4611686018427387904L;
    private static final Check check = new Check();

    interface Asked {
        long of(NotBothInAugust x);
    }

    private static final class Refusal {
        final String call;
        final long want;
        final Asked asked;

        Refusal(String call, long want, Asked asked) {
            this.call = call;
            this.want = want;
            this.asked = asked;
        }
    }

    private final List<Refusal> refusals = new ArrayList<>();
    private final Check.Made made;
    private int calls;

    private RefusalsTest(Check.Made made) {
        this.made = made;
    }

    public static void main(String[] args) {
        RefusalsTest lived = new RefusalsTest(RefusalsTest::lived);
        lived.ofPeople();
        lived.ofBooked();
        lived.ofTexts();
        lived.ofQuestions();
        lived.ofGladness();
        lived.ofSheets();
        lived.ofCopies();
        lived.ofClerks();
        lived.ofTaken();
        lived.run("a shop of three");
        RefusalsTest full = new RefusalsTest(RefusalsTest::full);
        full.ofFull();
        full.run("a shop that is full");
        RefusalsTest tape = new RefusalsTest(RefusalsTest::fullTape);
        tape.ofFullTape();
        tape.run("a tape that is full");
        RefusalsTest empty = new RefusalsTest(NotBothInAugust::new);
        empty.ofNobody();
        empty.run("a new object");
        RefusalsTest questions = new RefusalsTest(RefusalsTest::lived);
        questions.asking();
        questions.run("questions");
        check.end("RefusalsTest");
    }

    private void add(String call, long want, Asked asked) {
        refusals.add(new Refusal(call, want, asked));
    }

    private void run(String part) {
        check.part(part);
        NotBothInAugust untouched = made.one();
        List<Long> want = look(untouched);
        check.due("calls of a look, " + calls, calls < 400 ? 1 : 0, 1);
        for (Refusal r : refusals) {
            NotBothInAugust x = made.one();
            check.due(r.call, r.asked.of(x), r.want);
            check.due(r.call + " again", r.asked.of(x), r.want);
            List<Long> got = look(x);
            for (int i = 0; i < want.size(); i++) {
                check.due("behind " + r.call + ", look " + i, got.get(i), want.get(i));
            }
        }
    }

    // ---- the shops

    // Three people, two texts, a tape that is begun, sheets of each sort and one missing, an image that is otherwise.
    private static NotBothInAugust lived() {
        NotBothInAugust x = Check.shop(0, 1, 2);
        x.set(5, 1, 0b00011100);
        x.set(6, 2, 999);
        x.book(2, 0);
        x.apart(0, 2, 1);
        x.image();
        x.set(0, 0, 998);
        x.set(1, 0, 1);
        x.set(2, 0, 0b1001);
        x.set(3, 1, 9);
        x.set(4, 1, 4);
        x.set(5, 0, 0b11);
        x.set(6, 0, 7);
        x.apart(0, 1, 1);
        x.apart(0, 2, 0);
        x.book(0, 5);
        x.book(1, 2);
        x.book(2, 7);
        Check.rule(x, "joys 1;earns 2;may 1;");
        Check.feed(x, "joys 7;earns 4");
        Check.lay(x, 0, 2, 1, 0, 1, 1, 0, 0, 1, 0, 1, 1, 1, 0, 0, 1, 1, 1);
        Check.lay(x, 1, 1, 0, 1, 1, 0, 0, 0, 0, 1);
        x.sheet(2, 0, 0);
        return x;
    }

    // Four people of 999 points, six texts, the last year, no image.
    private static NotBothInAugust full() {
        NotBothInAugust x = Check.shop(0, 0, 3, 5);
        for (int one = 0; one < 4; one++) {
            x.set(6, one, 999);
            x.set(5, one, 170);
        }
        x.set(0, 0, 999);
        x.book(0, 3);
        x.book(2, 0);
        for (int text = 1; text <= 5; text++) {
            Check.text(x, "joys " + text + ";earns 9;may 1;");
        }
        x.force(5);
        x.feed('j');
        for (int sheet = 0; sheet < 4; sheet++) {
            Check.lay(x, sheet, 0, 1, 1, 0, 1, 0, 0, 0, 1);
        }
        return x;
    }

    private static NotBothInAugust fullTape() {
        NotBothInAugust x = Check.shop(0, 0);
        Check.feed(x, "joys 6;" + " ".repeat(132) + "earns 6;may not week;");
        return x;
    }

    // ---- all that can be asked

    private List<Long> look(NotBothInAugust x) {
        List<Long> seen = new ArrayList<>();
        lookAtPeople(x, seen);
        lookAtPlans(x, seen);
        lookAtSheets(x, seen);
        lookAtTexts(x, seen);
        for (int i = 0; i < 4; i++) {
            for (int j = 0; j < i; j++) {
                seen.add((long) x.apart(i, j, 0));
            }
        }
        seen.add((long) x.back());
        lookAtPeople(x, seen);
        seen.add((long) x.plan(0));
        for (int i = 0; i < 4; i++) {
            for (int j = 0; j < i; j++) {
                seen.add((long) x.apart(i, j, 1));
            }
        }
        calls = seen.size();
        return seen;
    }

    private static void lookAtPeople(NotBothInAugust x, List<Long> seen) {
        for (int what = 0; what <= 6; what++) {
            seen.add((long) x.count(what));
        }
        for (int what = 0; what <= 2; what++) {
            seen.add((long) x.told(0, what));
        }
        for (int one = 0; one < 4; one++) {
            for (int what = 3; what <= 10; what++) {
                seen.add((long) x.told(one, what));
            }
            seen.add((long) x.told(one, 20));
            seen.add((long) x.told(one, 33));
        }
    }

    private static void lookAtPlans(NotBothInAugust x, List<Long> seen) {
        for (int what : new int[] {0, 1, 2, 10, 12, 15, 17}) {
            seen.add((long) x.plan(what));
        }
        seen.add((long) x.best(0));
        seen.add((long) x.best(2));
        seen.add((long) x.inTurn(0));
        seen.add((long) x.change(0));
        seen.add((long) x.bars(0, 2));
    }

    // sorts, sizes and items: each sheet is asked for its sort, its ends and, if it is no longer, for eight at a time
    private static void lookAtSheets(NotBothInAugust x, List<Long> seen) {
        for (int sheet = 0; sheet < 4; sheet++) {
            for (int sort = 0; sort <= 2; sort++) {
                seen.add((long) x.clerks(sheet, sort, 0, 0));
            }
            for (int end : new int[] {0, 1, 3, 7, 8, 9, 16, 17}) {
                seen.add((long) x.copy(sheet, end, sheet, end, 0));
            }
            seen.add((long) x.tells(sheet, 0, 4));
        }
        seen.add((long) x.sheet(3, 2, 8));
        for (int from = 0; from <= 8; from += 4) {
            seen.add((long) x.copy(0, from, 3, 0, 8));
            seen.add((long) x.tells(3, 0, 4));
        }
    }

    // the tape is told by the text that it becomes
    private static void lookAtTexts(NotBothInAugust x, List<Long> seen) {
        for (char c : ";may 0;".toCharArray()) {
            seen.add((long) x.feed(c));
        }
        seen.add((long) x.text());
        seen.add((long) x.count(4));
        for (int text = 0; text < 7; text++) {
            seen.add((long) x.force(text));
            seen.add((long) x.told(0, 20));
            seen.add((long) x.told(0, 10));
            seen.add((long) x.told(0, 30));
        }
    }

    // ---- what is refused in a shop of three

    private void ofPeople() {
        int[] below = {-1, -1, -1, -1, 0, -1, -1};
        int[] above = {1000, 5, 16, 10, 5, 256, 1000};
        for (int what = 0; what <= 6; what++) {
            int w = what;
            for (int v : new int[] {below[w], above[w], MIN, MAX}) {
                add("set(" + w + ", 1, " + v + ")", BAD, x -> x.set(w, 1, v));
                add("set(" + w + ", 9, " + v + ")", BAD, x -> x.set(w, 9, v));
            }
            for (int of : new int[] {-1, 3, 4, MIN, MAX}) {
                if (w > 2) {
                    add("set(" + w + ", " + of + ", 2)", BAD, x -> x.set(w, of, 2));
                }
            }
        }
        for (int what : new int[] {-1, 7, 8, 9, 10, 20, 30, MIN, MAX}) {
            add("set(" + what + ", 0, 1)", BAD, x -> x.set(what, 0, 1));
        }
        int[][] bad = {{-1, 0, 1}, {6, 0, 1}, {0, -1, 1}, {0, 10, 1}, {0, 0, 0}, {0, 0, 5}, {MIN, MIN, MIN}, {MAX, MAX, MAX}};
        for (int[] b : bad) {
            add("clerk(" + b[0] + ", " + b[1] + ", " + b[2] + ")", BAD, x -> x.clerk(b[0], b[1], b[2]));
        }
        int[][] twos = {{0, 0, 1}, {1, 1, 0}, {2, 2, 1}, {0, 3, 1}, {3, 0, 1}, {-1, 0, 1}, {0, -1, 0}, {3, 4, 1}, {0, 1, 2},
            {0, 1, -1}, {0, 2, 2}, {1, 2, MAX}, {1, 2, MIN}, {3, 3, 1}, {MIN, MAX, 0}};
        for (int[] t : twos) {
            add("apart(" + t[0] + ", " + t[1] + ", " + t[2] + ")", BAD, x -> x.apart(t[0], t[1], t[2]));
        }
    }

    private void ofBooked() {
        for (int week : new int[] {-2, 8, MIN, MAX, 256}) {
            add("book(1, " + week + ")", BAD, x -> x.book(1, week));
        }
        for (int one : new int[] {-1, 3, 4, MIN, MAX}) {
            add("book(" + one + ", 0)", BAD, x -> x.book(one, 0));
            add("book(" + one + ", -1)", BAD, x -> x.book(one, -1));
        }
        // 2 is single; BAD stands ahead of STATE
        for (int week = 3; week <= 5; week++) {
            int w = week;
            add("book(2, " + w + ")", STATE, x -> x.book(2, w));
            add("book(3, " + w + ")", BAD, x -> x.book(3, w));
        }
    }

    private void ofTexts() {
        for (int letter : new int[] {-1, 256, MIN, MAX, -256, 256 + ';'}) {
            add("feed(" + letter + ")", BAD, x -> x.feed(letter));
        }
        for (int text : new int[] {-1, 2, 3, 6, MIN, MAX}) {
            add("force(" + text + ")", BAD, x -> x.force(text));
        }
    }

    private void ofQuestions() {
        for (int what : new int[] {-1, 11, 19, 28, 29, 38, MIN, MAX}) {
            add("told(0, " + what + ")", NOT_TOLD, x -> x.told(0, what));
        }
        for (int what : new int[] {3, 6, 7, 8, 9, 10, 20, 27, 30, 37, 38}) {
            add("told(3, " + what + ")", NOT_TOLD, x -> x.told(3, what));
            add("told(-1, " + what + ")", NOT_TOLD, x -> x.told(-1, what));
        }
        for (int what : new int[] {-1, 3, 9, 18, MIN, MAX}) {
            add("plan(" + what + ")", NOT_PLANNED, x -> x.plan(what));
        }
        for (int what : new int[] {-1, 4, MIN, MAX}) {
            add("best(" + what + ")", NOT_PLANNED, x -> x.best(what));
            add("change(" + what + ")", NOT_PLANNED, x -> x.change(what));
            add("inTurn(" + what + ")", NOT_PLANNED, x -> x.inTurn(what));
        }
        add("inTurn(3)", NOT_PLANNED, x -> x.inTurn(3));
        add("change(2)", NOT_PLANNED, x -> x.change(2));
        for (int week : new int[] {-1, 8, MIN, MAX}) {
            add("bars(0, " + week + ")", BAD, x -> x.bars(0, week));
        }
        for (int one : new int[] {-1, 3, MIN, MAX}) {
            add("bars(" + one + ", 0)", BAD, x -> x.bars(one, 0));
        }
        for (int what : new int[] {-1, 7, MIN, MAX}) {
            add("count(" + what + ")", BAD, x -> x.count(what));
        }
    }

    // sheet 0 tells 16, sheet 1 tells 8, sheet 2 tells nothing, sheet 3 is missing
    private void ofGladness() {
        for (int sheet : new int[] {-1, 4, MIN, MAX}) {
            add("tells(" + sheet + ", 0, 0)", BAD, x -> x.tells(sheet, 0, 0));
            add("film(" + sheet + ", 0)", BAD, x -> x.film(sheet, 0));
        }
        for (int sheet = 0; sheet < 4; sheet++) {
            int s = sheet;
            for (int one : new int[] {-1, 3, MIN, MAX}) {
                add("film(" + s + ", " + one + ")", BAD, x -> x.film(s, one));
                add("tells(" + s + ", " + one + ", 0)", BAD, x -> x.tells(s, one, 0));
            }
            for (int what : new int[] {-1, 6, MIN, MAX}) {
                add("tells(" + s + ", 0, " + what + ")", BAD, x -> x.tells(s, 0, what));
            }
        }
        for (int what = 0; what <= 5; what++) {
            int w = what;
            add("tells(3, 0, " + w + ")", NOTHING, x -> x.tells(3, 0, w));
            add("tells(0, 0, " + w + ")", BAD, x -> x.tells(0, 0, w));
            add("tells(2, 0, " + w + ")", BAD, x -> x.tells(2, 0, w));
        }
        for (int m : new int[] {0, 21, -1, MIN, MAX}) {
            add("chance(5, " + m + ", 0)", NO, x -> x.chance(5, m, 0));
            add("chance(5, " + m + ", 2)", NO, x -> x.chance(5, m, 2));
        }
        for (int part : new int[] {-1, 2, MIN, MAX}) {
            add("chance(5, 1, " + part + ")", NO, x -> x.chance(5, 1, part));
        }
    }

    private void ofSheets() {
        for (int sheet : new int[] {-1, 4, MIN, MAX}) {
            for (int n : new int[] {8, -1, 41}) {
                add("sheet(" + sheet + ", 0, " + n + ")", BAD, x -> x.sheet(sheet, 0, n));
                add("sheet(" + sheet + ", -1, " + n + ")", BAD, x -> x.sheet(sheet, -1, n));
            }
            add("cell(" + sheet + ", 0, 1)", BAD, x -> x.cell(sheet, 0, 1));
            add("cell(" + sheet + ", -1, 1)", BAD, x -> x.cell(sheet, -1, 1));
        }
        for (int sheet = 0; sheet < 4; sheet++) {
            int s = sheet;
            for (int sort : new int[] {-2, 3, MIN, MAX}) {
                add("sheet(" + s + ", " + sort + ", 8)", BAD, x -> x.sheet(s, sort, 8));
                add("sheet(" + s + ", " + sort + ", -1)", BAD, x -> x.sheet(s, sort, -1));
            }
            for (int sort = 0; sort <= 2; sort++) {
                int t = sort;
                add("sheet(" + s + ", " + t + ", 41)", BAD, x -> x.sheet(s, t, 41));
                add("sheet(" + s + ", " + t + ", MAX)", BAD, x -> x.sheet(s, t, MAX));
                add("sheet(" + s + ", " + t + ", -1)", BELOW_ZERO, x -> x.sheet(s, t, -1));
                add("sheet(" + s + ", " + t + ", MIN)", BELOW_ZERO, x -> x.sheet(s, t, MIN));
            }
            int[] sizes = {16, 8, 0, 0};
            for (int i : new int[] {-1, sizes[s], sizes[s] + 1, 40, MIN, MAX}) {
                add("cell(" + s + ", " + i + ", 1)", s == 3 ? NOTHING : OUTSIDE, x -> x.cell(s, i, 1));
            }
        }
    }

    private void ofCopies() {
        for (int sheet : new int[] {-1, 4, MIN, MAX}) {
            for (int other = 0; other < 4; other++) {
                int o = other;
                add("copy(" + sheet + ", 0, " + o + ", 0, 1)", BAD, x -> x.copy(sheet, 0, o, 0, 1));
                add("copy(" + o + ", 0, " + sheet + ", 0, 1)", BAD, x -> x.copy(o, 0, sheet, 0, 1));
                add("copy(" + o + ", -1, " + sheet + ", -1, -1)", BAD, x -> x.copy(o, -1, sheet, -1, -1));
            }
        }
        for (int sheet = 0; sheet < 4; sheet++) {
            int s = sheet;
            for (int n : new int[] {0, 1, -1, MAX}) {
                add("copy(3, 0, " + s + ", 0, " + n + ")", NOTHING, x -> x.copy(3, 0, s, 0, n));
                add("copy(" + s + ", 0, 3, 0, " + n + ")", NOTHING, x -> x.copy(s, 0, 3, 0, n));
                for (int other = 0; other < 3; other++) {
                    int o = other;
                    if (s < 3 && o != s) {
                        add("copy(" + s + ", 0, " + o + ", 0, " + n + ")", OTHER_SORT, x -> x.copy(s, 0, o, 0, n));
                    }
                }
            }
        }
        int[][] outside = {{-1, 0, 4}, {0, -1, 4}, {0, 0, -1}, {0, 0, 17}, {12, 0, 5}, {0, 12, 5}, {17, 0, 0}, {0, 17, 0},
            {1, 0, MAX}, {0, 1, MAX}, {MAX, 0, 1}, {0, MAX, 1}, {4, 4, MIN}, {16, 0, 1}, {0, 16, 1}};
        for (int[] o : outside) {
            add("copy(0, " + o[0] + ", 0, " + o[1] + ", " + o[2] + ")", OUTSIDE, x -> x.copy(0, o[0], 0, o[1], o[2]));
        }
    }

    private void ofClerks() {
        for (int sheet : new int[] {-1, 4, MIN, MAX}) {
            add("clerks(" + sheet + ", 0, 0, 0)", BAD, x -> x.clerks(sheet, 0, 0, 0));
            add("clerks(" + sheet + ", 2, 0, 1)", BAD, x -> x.clerks(sheet, 2, 0, 1));
        }
        for (int sheet = 0; sheet < 4; sheet++) {
            int s = sheet;
            for (int sort : new int[] {-2, -1, 3, MIN, MAX}) {
                add("clerks(" + s + ", " + sort + ", 0, 1)", BAD, x -> x.clerks(s, sort, 0, 1));
            }
            for (int n : new int[] {-1, 5, MIN, MAX}) {
                add("clerks(" + s + ", 2, 0, " + n + ")", BAD, x -> x.clerks(s, 2, 0, n));
                add("clerks(" + s + ", 0, -1, " + n + ")", BAD, x -> x.clerks(s, 0, -1, n));
            }
        }
        for (int n = 0; n <= 4; n++) {
            int m = n;
            for (int sort = 0; sort <= 2; sort++) {
                int t = sort;
                add("clerks(3, " + t + ", 0, " + m + ")", NOTHING, x -> x.clerks(3, t, 0, m));
                add("clerks(3, " + t + ", -1, " + m + ")", NOTHING, x -> x.clerks(3, t, -1, m));
                if (t != 2) {
                    add("clerks(0, " + t + ", 0, " + m + ")", OTHER_SORT, x -> x.clerks(0, t, 0, m));
                    add("clerks(0, " + t + ", 99, " + m + ")", OTHER_SORT, x -> x.clerks(0, t, 99, m));
                }
            }
            for (int from : new int[] {-1, -3, 14, 16, MIN, MAX}) {
                if (m > 0) {
                    add("clerks(0, 2, " + from + ", " + m + ")", OUTSIDE, x -> x.clerks(0, 2, from, m));
                }
            }
        }
        // three items that are no person: one is left out, and the next is outside
        add("clerks(0, 2, 12, 2)", OUTSIDE, x -> {
            x.cell(0, 12, 6);
            long got = x.clerks(0, 2, 12, 2);
            x.cell(0, 12, 0);
            return got;
        });
    }

    private void ofTaken() {
        for (int k : new int[] {-1, 6, MIN, MAX}) {
            add("taken(0, " + k + ")", BAD, x -> x.taken(0, k));
            add("taken(3, " + k + ")", BAD, x -> x.taken(3, k));
        }
        for (int k = 0; k <= 5; k++) {
            int l = k;
            for (int one : new int[] {-1, 3, MIN, MAX}) {
                add("taken(" + one + ", " + l + ")", NOTHING, x -> x.taken(one, l));
            }
            if (l != 0) {
                add("taken(0, " + l + ")", OTHER_SORT, x -> x.taken(0, l));
                add("taken(1, " + l + ")", l == 1 ? 9 : OTHER_SORT, x -> x.taken(1, l));
                add("taken(2, " + l + ")", l == 2 ? 0 : OTHER_SORT, x -> x.taken(2, l));
            }
        }
    }

    // ---- what is refused of what is full, and of nobody

    private void ofFull() {
        add("clerk(0, 0, 1)", FULL, x -> x.clerk(0, 0, 1));
        add("clerk(5, 9, 4)", FULL, x -> x.clerk(5, 9, 4));
        add("clerk(6, 0, 1)", BAD, x -> x.clerk(6, 0, 1));
        add("clerk(0, 10, 1)", BAD, x -> x.clerk(0, 10, 1));
        add("clerk(0, 0, 5)", BAD, x -> x.clerk(0, 0, 5));
        add("text()", FULL, NotBothInAugust::text);
        add("force(6)", BAD, x -> x.force(6));
        add("year()", STATE, NotBothInAugust::year);
        add("back()", STATE, NotBothInAugust::back);
        add("set(6, 0, 1000)", BAD, x -> x.set(6, 0, 1000));
        add("set(0, 0, 1000)", BAD, x -> x.set(0, 0, 1000));
        add("set(3, 4, 1)", BAD, x -> x.set(3, 4, 1));
        add("apart(0, 4, 1)", BAD, x -> x.apart(0, 4, 1));
        add("book(4, 0)", BAD, x -> x.book(4, 0));
        add("book(3, 1)", STATE, x -> x.book(3, 1));
        add("film(0, 4)", BAD, x -> x.film(0, 4));
        add("clerks(0, 0, 0, 2), for whom there is no room", 0, x -> x.clerks(0, 0, 0, 2));
        add("clerks(0, 0, 0, 3)", OUTSIDE, x -> x.clerks(0, 0, 0, 3));
    }

    private void ofFullTape() {
        for (int letter : new int[] {0, 32, ';', '$', 255}) {
            add("feed(" + letter + ")", FULL, x -> x.feed(letter));
        }
        for (int letter : new int[] {-1, 256, MIN, MAX}) {
            add("feed(" + letter + ")", BAD, x -> x.feed(letter));
        }
    }

    private void ofNobody() {
        for (int what = 3; what <= 6; what++) {
            int w = what;
            add("set(" + w + ", 0, 1)", BAD, x -> x.set(w, 0, 1));
            add("told(0, " + w + ")", NOT_TOLD, x -> x.told(0, w));
        }
        add("apart(0, 1, 1)", BAD, x -> x.apart(0, 1, 1));
        add("book(0, 0)", BAD, x -> x.book(0, 0));
        add("bars(0, 0)", BAD, x -> x.bars(0, 0));
        add("tells(0, 0, 0)", BAD, x -> x.tells(0, 0, 0));
        add("film(0, 0)", BAD, x -> x.film(0, 0));
        add("back()", STATE, NotBothInAugust::back);
        add("force(1)", BAD, x -> x.force(1));
        add("text()", -100, NotBothInAugust::text);
        add("cell(0, 0, 1)", NOTHING, x -> x.cell(0, 0, 1));
        add("copy(0, 0, 1, 0, 0)", NOTHING, x -> x.copy(0, 0, 1, 0, 0));
        add("clerks(0, 0, 0, 0)", NOTHING, x -> x.clerks(0, 0, 0, 0));
        add("taken(0, 0)", NOTHING, x -> x.taken(0, 0));
        add("taken(0, 6)", BAD, x -> x.taken(0, 6));
        add("sheet(0, 0, -1)", BELOW_ZERO, x -> x.sheet(0, 0, -1));
        add("sheet(0, -1, -1), that is missing anyhow", 1, x -> x.sheet(0, -1, -1));
    }

    // ---- a question changes nothing either

    private void asking() {
        for (int what = 0; what <= 3; what++) {
            int w = what;
            NotBothInAugust x = made.one();
            add("best(" + w + ")", x.best(w), y -> y.best(w));
            if (w < 3) {
                add("inTurn(" + w + ")", x.inTurn(w), y -> y.inTurn(w));
            }
            if (w < 2) {
                add("change(" + w + ")", x.change(w), y -> y.change(w));
            }
        }
        for (int week = 0; week < 8; week++) {
            int w = week;
            NotBothInAugust x = made.one();
            for (int one = 0; one < 3; one++) {
                int o = one;
                add("bars(" + o + ", " + w + ")", x.bars(o, w), y -> y.bars(o, w));
            }
            add("plan(1" + w + ")", x.plan(10 + w), y -> y.plan(10 + w));
            add("drawn(" + w + ")", x.drawn(w), y -> y.drawn(w));
            add("chance(" + w + ", 20, 0)", x.chance(w, 20, 0), y -> y.chance(w, 20, 0));
        }
        for (int what = 0; what <= 5; what++) {
            int w = what;
            for (int one = 0; one < 3; one++) {
                int o = one;
                add("tells(1, " + o + ", " + w + ")", made.one().tells(1, o, w), y -> y.tells(1, o, w));
            }
        }
        add("book(1, 2), as it is", 2, x -> x.book(1, 2));
        add("set(0, 0, 998), as it is", 998, x -> x.set(0, 0, 998));
        add("copy(0, 3, 0, 3, 5), as it is", 5, x -> x.copy(0, 3, 0, 3, 5));
        add("cell(0, 1, 0), as it is", 1, x -> x.cell(0, 1, 0));
        add("sheet(3, -1, 5), as it is", 1, x -> x.sheet(3, -1, 5));
        add("apart(1, 0, 1), as it is", 1, x -> x.apart(1, 0, 1));
        add("force(1), as it is", 1, x -> x.force(1));
        add("set(1, 0, 5)", BAD, x -> x.set(1, 0, 5));
    }
}
