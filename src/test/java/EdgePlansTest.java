/** What Terms and Promises 5, 6 and 10 .. 16 say of kinds, BLOCKS, PLANS and YEARS, at their edges. */
public final class EdgePlansTest {
    private static final int NONE = -1, STATE = -3;
    private static final Check check = new Check();

    private static void due(String call, long got, long want) {
        check.due(call, got, want);
    }

    public static void main(String[] args) {
        gladOfKinds();
        halves();
        numbersOfKinds();
        earnsOfKinds();
        wantsOfKinds();
        blocks();
        canBe();
        canBeNoMore();
        needed();
        knowTheSafe();
        areApart();
        firstWrong();
        away();
        nobody();
        noneAtAll();
        bestOfLike();
        bestOfMost();
        bestOfOne();
        bestOfFour();
        bookedDoesNotCount();
        fairest();
        turnsByPoints();
        turnsByGladness();
        turnsThatCanBeAdded();
        changes();
        changesOfLike();
        changesOfMost();
        changesOfNone();
        bars();
        barsOfSuchAsCanNotBe();
        barsOfMany();
        years();
        yearOfEach();
        settles();
        check.end("EdgePlansTest");
    }

    // One for each kind, of a number; joys and wishes as told.
    private static NotBothInAugust one(int kind, int number, int wishes, String rule) {
        NotBothInAugust x = new NotBothInAugust();
        x.clerk(kind, number, 1);
        x.set(1, 0, 0);
        x.set(5, 0, wishes);
        if (!rule.isEmpty()) {
            due(rule, Check.rule(x, rule), 1);
        }
        return x;
    }

    private static void dueWeeks(String call, NotBothInAugust x, int from, int... want) {
        for (int week = 0; week < 8; week++) {
            due(call + " in " + week, x.told(0, from + week), want[week]);
        }
    }

    // ---- GLAD, each kind in each WEEK

    private static void gladOfKinds() {
        check.part("GLAD, nothing WISHED");
        String odd = "joys 11;earns 0;may 1;";
        dueWeeks("clerk", one(0, 2, 0, odd), 20, 5, 5, 5, 5, 5, 5, 5, 5);
        dueWeeks("parent", one(1, 2, 0, odd), 20, 5, 5, 5, 10, 10, 10, 5, 5);
        dueWeeks("single", one(2, 2, 0, odd), 20, 7, 7, 7, 7, 7, 7, 7, 7);
        dueWeeks("bride", one(3, 2, 0, odd), 20, 5, 5, 30, 10, 10, 10, 5, 5);
        dueWeeks("boss", one(4, 2, 0, odd), 20, 7, 6, 5, 4, 3, 2, 1, 0);
        dueWeeks("apprentice", one(5, 2, 0, odd), 20, 0, 0, 0, 0, 0, 0, 0, 0);
        check.part("GLAD, all WISHED");
        dueWeeks("clerk", one(0, 2, 255, odd), 20, 11, 11, 11, 11, 11, 11, 11, 11);
        dueWeeks("parent", one(1, 2, 255, odd), 20, 11, 11, 11, 22, 22, 22, 11, 11);
        dueWeeks("single", one(2, 2, 255, odd), 20, 13, 13, 13, 13, 13, 13, 13, 13);
        dueWeeks("bride", one(3, 5, 255, odd), 20, 11, 11, 11, 22, 22, 30, 11, 11);
        dueWeeks("boss", one(4, 2, 255, odd), 20, 13, 12, 11, 10, 9, 8, 7, 6);
        dueWeeks("apprentice", one(5, 2, 255, odd), 20, 5, 5, 5, 5, 5, 5, 5, 5);
        check.part("GLAD, each WEEK alone WISHED");
        for (int week = 0; week < 8; week++) {
            int[] want = {0, 0, 0, 0, 0, 0, 0, 0};
            want[week] = 5;
            dueWeeks("apprentice", one(5, 2, 1 << week, odd), 20, want);
            for (int w = 0; w < 8; w++) {
                want[w] = w == week ? 11 : 5;
            }
            dueWeeks("clerk", one(0, 2, 1 << week, odd), 20, want);
        }
    }

    // ---- "Quotients are cut toward 0"

    private static void halves() {
        check.part("cut toward 0");
        for (int v = -9; v <= 9; v++) {
            int half = v < 0 ? -(-v >> 1) : v >> 1;
            NotBothInAugust x = one(0, 0, 0, "joys " + v + ";earns " + v + ";may 1;");
            due("half of " + v, x.told(0, 20), half);
            x = one(1, 0, 0, "joys " + v + ";earns " + v + ";may 1;");
            due("twice the half of " + v, x.told(0, 24), 2 * half);
            x = one(5, 0, 0, "joys " + v + ";earns " + v + ";may 1;");
            due("half of what a clerk earns, " + v, x.told(0, 10), Math.max(0, half));
        }
    }

    // ---- NUMBER 0 .. 9, modulo 8 and added

    private static void numbersOfKinds() {
        check.part("NUMBER");
        for (int number = 0; number <= 9; number++) {
            NotBothInAugust bride = one(3, number, 0, "joys 0;earns 0;may 0;");
            NotBothInAugust single = one(2, number, 0, "joys 0;earns 0;may 0;");
            NotBothInAugust boss = one(4, number, 0, "joys 0;earns 0;may 0;");
            for (int week = 0; week < 8; week++) {
                boolean isHers = week == number || week == number - 8;
                due("a bride of " + number, bride.told(0, 20 + week), isHers ? 30 : 0);
                due("she wants it", bride.told(0, 30 + week), isHers ? 1 : 0);
                due("a single of " + number, single.told(0, 20 + week), number);
                due("a boss of " + number, boss.told(0, 20 + week), number - week);
            }
        }
        // her week is 30 for her, whatever joys tell and whether it is wished or not
        for (String joys : new String[] {"99", "-99", "31", "0"}) {
            due("30", one(3, 4, 255, "joys " + joys + ";earns 0;may 0;").told(0, 24), 30);
            due("30", one(3, 4, 0, "joys " + joys + ";earns 0;may 0;").told(0, 24), 30);
        }
    }

    // ---- EARNS: "v, if s is below 30, else 0"; "v and 2"; "half (cut)"; "0 at least"

    private static void earnsOfKinds() {
        check.part("EARNS");
        int[] s = {-99, -1, 0, 28, 29, 30, 31, 60, 99};
        for (int had : s) {
            for (int v : new int[] {0, 1, 7, 99}) {
                String rule = "joys " + had + ";earns " + v + ";may 1;";
                int[] want = {v, had < 30 ? v : 0, v + 2, had < 30 ? v : 0, 0, v / 2};
                for (int kind = 0; kind <= 5; kind++) {
                    NotBothInAugust x = one(kind, 0, 255, rule);
                    x.book(0, 2);
                    due("kind " + kind + ", " + rule, x.told(0, 10), want[kind]);
                }
            }
        }
        check.part("EARNS, all WEEKS of the BLOCK together");
        for (int length = 1; length <= 4; length++) {
            NotBothInAugust x = one(1, 0, 255, "joys 10;earns 7;may 1;");
            x.set(4, 0, length);
            due("none had", x.told(0, 10), 7);
            x.book(0, 0);
            due("had " + x.told(0, 9), x.told(0, 10), length < 3 ? 7 : 0);
            x.book(0, 6);
            due("had of the last two", x.told(0, 10), 7);
            x.book(0, 5);
            due("had from 5 on", x.told(0, 10), length < 2 ? 7 : 0);
        }
        NotBothInAugust bride = one(3, 6, 0, "joys 0;earns 7;may 1;");
        bride.book(0, 5);
        due("a bride away beside her week", bride.told(0, 10), 7);
        bride.book(0, 6);
        due("a bride away in her week", bride.told(0, 10), 0);
    }

    // ---- WANTS

    private static void wantsOfKinds() {
        check.part("WANTS");
        String yes = "joys 1;earns 1;may 1;";
        String no = "joys 1;earns 1;may 0;";
        dueWeeks("clerk", one(0, 1, 0, yes), 30, 1, 1, 1, 1, 1, 1, 1, 1);
        dueWeeks("clerk", one(0, 1, 0, no), 30, 0, 0, 0, 0, 0, 0, 0, 0);
        dueWeeks("parent", one(1, 1, 0, yes), 30, 1, 1, 1, 1, 1, 1, 1, 1);
        dueWeeks("parent", one(1, 1, 0, no), 30, 0, 0, 0, 0, 0, 0, 0, 0);
        dueWeeks("single", one(2, 1, 0, yes), 30, 1, 1, 1, 0, 0, 0, 1, 1);
        dueWeeks("single", one(2, 1, 0, no), 30, 0, 0, 0, 0, 0, 0, 0, 0);
        dueWeeks("bride", one(3, 1, 0, yes), 30, 1, 1, 1, 1, 1, 1, 1, 1);
        dueWeeks("bride", one(3, 1, 0, no), 30, 0, 1, 0, 0, 0, 0, 0, 0);
        dueWeeks("boss", one(4, 1, 0, yes), 30, 1, 1, 1, 1, 1, 1, 1, 1);
        dueWeeks("boss", one(4, 1, 0, no), 30, 1, 1, 1, 1, 1, 1, 1, 1);
        dueWeeks("apprentice", one(5, 1, 0, yes), 30, 1, 0, 1, 0, 1, 0, 1, 0);
        dueWeeks("apprentice", one(5, 1, 0, no), 30, 0, 0, 0, 0, 0, 0, 0, 0);
        String some = "joys 1;earns 1;may 2<week and week<6 or wished;";
        dueWeeks("clerk", one(0, 1, 0b10000001, some), 30, 1, 0, 0, 1, 1, 1, 0, 1);
        dueWeeks("single", one(2, 1, 0b10000001, some), 30, 1, 0, 0, 0, 0, 0, 0, 1);
        dueWeeks("bride", one(3, 9, 0b10000001, some), 30, 1, 1, 0, 1, 1, 1, 0, 1);
        dueWeeks("apprentice", one(5, 1, 0b10000001, some), 30, 1, 0, 0, 0, 1, 0, 0, 0);
    }

    // ---- "LENGTH on end, as far as there are"

    private static void blocks() {
        check.part("a BLOCK, as far as there are WEEKS");
        for (int length = 1; length <= 4; length++) {
            NotBothInAugust x = new NotBothInAugust();
            x.clerk(0, 0, length);
            x.set(1, 0, 0);
            for (int first = -1; first < 8; first++) {
                x.book(0, first);
                int weeks = 0;
                for (int week = 0; week < 8; week++) {
                    boolean isAway = first >= 0 && week >= first && week - first < length;
                    due(length + " from " + first + " in " + week, x.plan(10 + week), isAway ? 1 : 0);
                    weeks += isAway ? 1 : 0;
                }
                due("has of " + weeks, x.told(0, 9), 5 * weeks);
                due("all of " + weeks, x.plan(1), 5 * weeks);
                due("booked", x.count(1), first < 0 ? 0 : 1);
            }
        }
        NotBothInAugust x = one(0, 0, 0, "");
        x.book(0, 5);
        for (int length = 4; length >= 1; length--) {
            x.set(4, 0, length);
            due("a block of another length then", x.told(0, 9), 5 * Math.min(3, length));
        }
    }

    // ---- "A BLOCK CAN BE one's, if one WANTS all its WEEKS"

    private static void canBe() {
        check.part("CAN BE");
        for (int length = 1; length <= 4; length++) {
            for (int closed = 0; closed < 8; closed++) {
                NotBothInAugust x = one(0, 0, 0, "joys 1;earns 1;may not week=" + closed + ";");
                x.set(4, 0, length);
                for (int first = 0; first < 8; first++) {
                    boolean can = closed < first || closed >= first + length;
                    x.book(0, NONE);
                    due(length + " from " + first + " but for " + closed, x.book(0, first), can ? NONE : STATE);
                    due("booked or not", x.told(0, 8), can ? first : NONE);
                }
            }
        }
        NotBothInAugust single = one(2, 0, 0, "");
        single.set(4, 0, 2);
        int[] want = {NONE, 0, STATE, STATE, STATE, STATE, 1, 6};
        for (int first = 0; first < 8; first++) {
            due("a single from " + first, single.book(0, first), want[first]);
        }
        NotBothInAugust apprentice = one(5, 0, 0, "");
        apprentice.set(4, 0, 2);
        for (int first = 0; first < 8; first++) {
            due("an apprentice for two weeks", apprentice.book(0, first), STATE);
        }
        NotBothInAugust never = one(0, 0, 0, "joys 1;earns 1;may 0;");
        due("none can always be", never.book(0, NONE), NONE);
        due("no week can", never.book(0, 7), STATE);
    }

    // ---- "(2; NONE; but for what can not BE)"

    private static void canBeNoMore() {
        check.part("what can not BE any more");
        NotBothInAugust x = one(0, 0, 0, "joys 1;earns 1;may not wished;");
        x.book(0, 6);
        due("it holds", x.plan(0), 1);
        x.set(5, 0, 1 << 6);
        due("it doesn't", x.plan(0), 0);
        due("but no week is wrong", x.plan(2), NONE);
        due("away all the same", x.plan(16), 1);
        due("and glad of it", x.told(0, 9), 1);
        due("all are glad of it", x.plan(1), 1);
        due("booked", x.count(1), 1);
        due("booked again", x.book(0, 6), STATE);
        due("as it was", x.told(0, 8), 6);
        x.set(2, 0, 1);
        due("now a week is", x.plan(2), 6);
        due("nobody bars", x.bars(0, 6), NONE);
        due("none can always be", x.book(0, NONE), 6);
        due("it holds", x.plan(0), 1);
    }

    // ---- "NEEDED (0 .. 4; 2 at first): how many must be there in any WEEK (all, if there are fewer)"

    private static NotBothInAugust people(int n) {
        NotBothInAugust x = new NotBothInAugust();
        for (int one = 0; one < n; one++) {
            x.clerk(0, 0, 1);
        }
        return x;
    }

    private static void needed() {
        check.part("NEEDED");
        for (int n = 0; n <= 4; n++) {
            for (int needed = -1; needed <= 4; needed++) {
                NotBothInAugust x = people(n);
                x.set(1, 0, needed);
                int must = Math.min(n, needed < 0 ? 2 : needed);
                for (int gone = 0; gone <= n; gone++) {
                    String call = gone + " of " + n + " gone, needed " + needed;
                    due(call, x.plan(0), n - gone >= must ? 1 : 0);
                    due(call, x.plan(2), n - gone >= must ? NONE : 7);
                    x.book(gone, 7);
                }
                due("all can be away in turn", x.inTurn(2), must == n ? n : 0);
                due("least of the fairest", x.best(3), must == n ? 0 : 5);
            }
        }
    }

    // ---- "KEY ...: unless there are none, one of them must be there in any WEEK"

    private static void knowTheSafe() {
        check.part("KEY");
        for (int n = 0; n <= 4; n++) {
            NotBothInAugust x = people(n);
            x.set(1, 0, 0);
            for (int gone = 0; gone < 1 << n; gone++) {
                for (int one = 0; one < n; one++) {
                    x.book(one, (gone >> one & 1) != 0 ? 4 : NONE);
                }
                for (int key = 0; key < 16; key++) {
                    x.set(2, 0, key);
                    int knowing = key % (1 << n);
                    boolean holds = knowing == 0 || (knowing & ~gone) != 0;
                    due("key " + key + ", gone " + gone + " of " + n, x.plan(2), holds ? NONE : 4);
                }
            }
        }
        NotBothInAugust x = people(2);
        x.set(1, 0, 0);
        x.set(2, 0, 4);
        x.book(0, 3);
        x.book(1, 3);
        due("2 isn't there", x.plan(0), 1);
        x.clerk(0, 0, 1);
        due("2 came and is there", x.plan(0), 1);
        x.book(2, 3);
        due("2 is away", x.plan(0), 0);
    }

    // ---- "APART: twos who must not be away in one WEEK"

    private static void areApart() {
        check.part("APART");
        for (int one = 0; one < 4; one++) {
            for (int other = 0; other < 4; other++) {
                if (one != other) {
                    NotBothInAugust x = people(4);
                    x.set(1, 0, 0);
                    for (int all = 0; all < 4; all++) {
                        x.book(all, 2);
                    }
                    due("together", x.plan(2), NONE);
                    due("not yet", x.apart(one, other, 1), 0);
                    due("the other way round", x.apart(other, one, 1), 1);
                    due("twos", x.count(2), 1);
                    due("not together", x.plan(2), 2);
                    x.book(one, 3);
                    due("one on the other's heels", x.plan(2), NONE);
                    x.set(4, other, 2);
                    due("not together in 3", x.plan(2), 3);
                    x.book(one, 1);
                    due("one ahead of the other", x.plan(2), NONE);
                    x.book(one, NONE);
                    due("one is there", x.plan(2), NONE);
                }
            }
        }
        NotBothInAugust x = people(4);
        int twos = 0;
        for (int one = 0; one < 4; one++) {
            for (int other = one + 1; other < 4; other++) {
                due("apart", x.apart(one, other, 1), 0);
                twos++;
                due("twos", x.count(2), twos);
            }
        }
        due("all six", twos, 6);
        due("no more", x.apart(3, 2, 0), 1);
        due("no more", x.apart(2, 3, 0), 0);
        due("twos", x.count(2), 5);
    }

    // ---- "the first WEEK in which it doesn't", "who are away in WEEK what less 10"

    private static void firstWrong() {
        check.part("10 plan, the first WEEK");
        for (int week = 0; week < 8; week++) {
            NotBothInAugust x = people(3);
            x.book(0, week);
            x.book(1, week);
            due("in " + week, x.plan(2), week);
            due("it doesn't hold", x.plan(0), 0);
            x.set(4, 0, 4);
            x.set(4, 1, 4);
            due("first in " + week, x.plan(2), week);
            x.book(1, week < 7 ? week + 1 : NONE);
            due("first a week later", x.plan(2), week < 7 ? week + 1 : NONE);
        }
    }

    private static void away() {
        check.part("10 plan, who are away");
        for (int gone = 0; gone < 16; gone++) {
            NotBothInAugust x = people(4);
            for (int one = 0; one < 4; one++) {
                x.book(one, (gone >> one & 1) != 0 ? 7 : 0);
            }
            due("in 7", x.plan(17), gone);
            due("in 0", x.plan(10), 15 - gone);
            due("in 6", x.plan(16), 0);
        }
    }

    // ---- no PEOPLE

    private static void nobody() {
        check.part("no PEOPLE");
        NotBothInAugust x = new NotBothInAugust();
        x.set(1, 0, 4);
        x.set(2, 0, 15);
        int[] plan = {1, 0, NONE};
        for (int what = 0; what < 3; what++) {
            due("plan", x.plan(what), plan[what]);
        }
        for (int week = 0; week < 8; week++) {
            due("away", x.plan(10 + week), 0);
        }
        for (int what = 0; what < 4; what++) {
            due("best", x.best(what), 0);
        }
        for (int what = 0; what < 3; what++) {
            due("inTurn", x.inTurn(what), 0);
        }
        due("change", x.change(0), NONE);
        due("change", x.change(1), 0);
        due("settle", x.settle(), 0);
        due("drawn", x.drawn(1), 0);
        due("year", x.year(), 0);
        due("the year", x.told(0, 0), 1);
        due("image", x.image(), 0);
        due("back", x.back(), 0);
        for (int what : new int[] {0, 1, 2, 3, 5, 6}) {
            due("count", x.count(what), 0);
        }
    }

    // ---- "(That nobody is away at all always HOLDS.)"

    private static void noneAtAll() {
        check.part("nobody is away");
        for (int n = 0; n <= 4; n++) {
            NotBothInAugust x = people(n);
            x.set(1, 0, 4);
            x.set(2, 0, 15);
            for (int one = 0; one < n; one++) {
                for (int other = 0; other < one; other++) {
                    x.apart(one, other, 1);
                }
            }
            Check.rule(x, "joys 9;earns 1;may 0;");
            due("it holds", x.plan(0), 1);
            due("best", x.best(0), 0);
            due("all", x.best(1), 0);
            due("fairest", x.best(2), 0);
            due("least", x.best(3), 0);
            due("in turn", x.inTurn(0), 0);
            due("have none", x.inTurn(2), n);
            due("has none", x.told(n - 1, 9), n == 0 ? -1000 : 0);
        }
    }

    // ---- "of like ones the first (digits: 0 none, .. number 0's the highest; 0 ahead of 1, ..)"

    private static void bestOfLike() {
        check.part("BEST, of like ones");
        NotBothInAugust x = people(2);
        x.set(1, 0, 0);
        due("all weeks alike", x.best(0), 11);
        x.set(1, 0, 1);
        due("0 has the first of them", x.best(0), 12);
        x.set(5, 0, 0b00100100);
        due("the first wished", x.best(0), 31);
        x.set(5, 1, 0b00100100);
        due("both wish for 2 and 5", x.best(0), 36);
        due("the fairest too", x.best(2), 36);
        Check.rule(x, "joys 0;earns 1;may 1;");
        due("none ahead of what is 0", x.best(0), 0);
        due("the fairest too", x.best(2), 0);
        NotBothInAugust y = Check.shop(4, 4);
        y.set(1, 0, 0);
        Check.rule(y, "joys 0;earns 1;may 1;");
        due("0 of week 0, less of all others", y.best(0), 0);
        y.set(3, 1, 1);
        due("only the other has 1", y.best(0), 1);
        due("all", y.best(1), 1);
        due("the least is 0 anyhow", y.best(2), 0);
        due("least", y.best(3), 0);
        y.set(3, 0, 1);
        y.apart(0, 1, 1);
        due("either has 1: none of number 0 comes first", y.best(0), 1);
        due("each could take what is 0, so none comes first", y.best(2), 0);
        NotBothInAugust z = people(4);
        z.set(1, 0, 0);
        due("four digits", z.best(0), 1111);
        z.set(5, 0, 128);
        due("8 the highest", z.best(0), 8111);
        z.set(5, 3, 128);
        due("8 the last", z.best(0), 8118);
        z.set(1, 0, 3);
        due("one at a time: number 3 in 7, so that number 0 is in 0", z.best(0), 1238);
    }

    // ---- "that of most ALL"

    private static void bestOfMost() {
        check.part("BEST, the most ALL");
        NotBothInAugust x = people(1);
        x.set(1, 0, 0);
        for (int week = 0; week < 8; week++) {
            x.set(5, 0, 1 << week);
            due("the wished week", x.best(0), week + 1);
            due("all", x.best(1), 10);
            for (int length = 1; length <= 4; length++) {
                x.set(4, 0, length);
                due(length + " about " + week, x.best(1), 10 + 5 * (length - 1));
                due(length + " about " + week, x.best(0), 1 + Math.max(0, week - length + 1));
            }
            x.set(4, 0, 1);
        }
        Check.rule(x, "joys 0-1;earns 1;may 1;");
        x.set(5, 0, 255);
        due("none ahead of less than 0", x.best(0), 0);
        due("all", x.best(1), 0);
        Check.rule(x, "joys 1-2*(week<7);earns 1;may 1;");
        due("1 is more than 0", x.best(0), 8);
        x.set(4, 0, 4);
        due("only the last block is", x.best(0), 8);
        due("all", x.best(1), 1);
        due("the fairest", x.best(2), 8);
        due("in turn", x.inTurn(0), 8);
        // one who could have most gives way, when two others have more together
        NotBothInAugust y = Check.shop(1, 0, 0);
        y.set(1, 0, 0);
        y.apart(0, 1, 1);
        y.apart(0, 2, 1);
        Check.rule(y, "joys 10+number;earns 1;may week=3;");
        for (int one = 0; one < 3; one++) {
            y.set(5, one, 8);
        }
        due("20 is as much as 10 and 10, none of number 0 first", y.best(0), 44);
        y.set(3, 0, 1);
        due("22 is more than 20", y.best(0), 400);
        y.set(3, 1, 3);
        due("23 is more than 22", y.best(0), 44);
        due("all", y.best(1), 23);
        due("in turn 0 is first", y.inTurn(0), 400);
    }

    // one alone of some people has anything, of one week alone
    private static void bestOfOne() {
        check.part("BEST, of one alone");
        for (int n = 1; n <= 4; n++) {
            for (int week = 0; week < 8; week++) {
                NotBothInAugust x = people(n);
                x.set(1, 0, 0);
                Check.rule(x, "joys 2*number;earns 1;may week=" + week + ";");
                int digit = week + 1;
                for (int one = n - 1; one >= 0; one--) {
                    x.set(3, one, 1);
                    due("one of " + n + " in " + week, x.best(0), digit);
                    due("all", x.best(1), 1);
                    due("the least", x.best(3), n == 1 ? 1 : 0);
                    due("the fairest", x.best(2), n == 1 ? digit : 0);
                    due("in turn", x.inTurn(0), digit);
                    x.set(3, one, 0);
                    digit *= 10;
                }
            }
        }
    }

    // four in four weeks, of which only one may be away in each
    private static void bestOfFour() {
        check.part("BEST, of four");
        int[] weeks = {0, 3, 6, 7};
        for (int mix = 0; mix < 256; mix++) {
            int[] own = {weeks[mix & 3], weeks[mix >> 2 & 3], weeks[mix >> 4 & 3], weeks[mix >> 6]};
            NotBothInAugust x = people(4);
            x.set(1, 0, 3);
            int digits = 0;
            int bits = 0;
            for (int one = 0; one < 4; one++) {
                x.set(5, one, 1 << own[one]);
                digits = 10 * digits + own[one] + 1;
                bits |= 1 << own[one];
            }
            if (Integer.bitCount(bits) == 4) {
                due("best", x.best(0), digits);
                due("all", x.best(1), 40);
                due("fairest", x.best(2), digits);
                due("least", x.best(3), 10);
                due("in turn", x.inTurn(0), digits);
            }
            // then nobody has anything
            Check.rule(x, "joys 0;earns 1;may 1;");
            due("best", x.best(0), 0);
            due("fairest", x.best(2), 0);
        }
    }

    private static void bookedDoesNotCount() {
        check.part("what is booked does not count");
        int[] alike = {0, 0, 12, 123, 1234};
        for (int n = 2; n <= 4; n++) {
            for (int week = 0; week < 8; week++) {
                NotBothInAugust x = people(n);
                x.set(1, 0, n - 1);
                for (int one = 0; one < n; one++) {
                    x.book(one, week);
                }
                due("best", x.best(0), alike[n]);
                due("fairest", x.best(2), alike[n]);
                due("in turn", x.inTurn(0), alike[n]);
                NotBothInAugust y = people(n);
                y.set(1, 0, n - 1);
                due("drawn", x.drawn(week), y.drawn(week));
                for (int first = 0; first < n; first++) {
                    x.set(6, first, 999);
                    int want = 0;
                    for (int one = 0; one < n; one++) {
                        want = 10 * want + (one == first ? 1 : one < first ? one + 2 : one + 1);
                    }
                    due("in turn, first " + first, x.inTurn(0), want);
                    x.set(6, first, 0);
                }
                due("booked as before", x.plan(10 + week), (1 << n) - 1);
            }
        }
    }

    // ---- "FAIREST: that by which the least that anybody HAS is most"

    private static void fairest() {
        check.part("FAIREST");
        NotBothInAugust x = people(3);
        x.set(1, 0, 0);
        Check.rule(x, "joys 2*number;earns 1;may 1;");
        for (int one = 0; one < 3; one++) {
            due("one has 0, so none is away", x.best(2), 0);
            due("least", x.best(3), 0);
            x.set(3, one, 5 - one);
        }
        due("all have some", x.best(2), 111);
        due("the least of all", x.best(3), 3);
        x.set(3, 0, 1);
        due("number 0 has least", x.best(3), 1);
        x.set(5, 0, 128);
        due("number 0's wish, the others' any", x.best(2), 811);
        x.set(5, 0, 129);
        due("number 0's first wish", x.best(2), 111);
        x.set(5, 0, 64);
        x.apart(0, 1, 1);
        x.apart(0, 2, 1);
        x.apart(1, 2, 1);
        due("not the most of all, but the first that is as fair", x.best(2), 712);
        x.set(5, 1, 3);
        x.set(5, 2, 3);
        due("so too, though 1 and 2 wish for one week", x.best(2), 712);
        due("least", x.best(3), 2);
        fairestNotBest();
        // each of them is the one who has least
        for (int n = 1; n <= 4; n++) {
            for (int one = 0; one < n; one++) {
                NotBothInAugust y = people(n);
                y.set(1, 0, 0);
                Check.rule(y, "joys 2*number;earns 1;may 1;");
                for (int all = 0; all < n; all++) {
                    y.set(3, all, all == one ? 2 : 5 + all);
                }
                due("the least of " + one, y.best(3), 2);
                due("the first as fair", y.best(2), 1111 / (int) Math.pow(10, 4 - n));
                y.set(3, one, 0);
                due("none", y.best(3), 0);
                due("none is away", y.best(2), 0);
            }
        }
    }

    // Two who are apart, in the weeks 0 and 1 alone: what number 0 would have of them, and what number 1.
    private static NotBothInAugust two(int of0in0, int of0in1, int of1in0, int of1in1) {
        NotBothInAugust x = people(2);
        x.set(1, 0, 0);
        x.apart(0, 1, 1);
        x.set(3, 1, 1);
        x.set(5, 0, 3);
        x.set(5, 1, 3);
        due("rule", Check.rule(x, "joys (" + of0in0 + "+week*" + (of0in1 - of0in0) + ")*(1-number)+(" + of1in0 + "+week*"
            + (of1in1 - of1in0) + ")*number;earns 1;may week<2;"), 1);
        return x;
    }

    private static void duePlans(NotBothInAugust x, int... want) {
        for (int what = 0; what < 4; what++) {
            due("best(" + what + ")", x.best(what), want[what]);
        }
    }

    // nothing but ALL makes a plan the best, nothing but the least the fairest: of like ones the first
    private static void fairestNotBest() {
        duePlans(two(40, 10, 12, 2), 12, 42, 21, 10);
        duePlans(two(10, 40, 2, 12), 21, 42, 12, 10);
        duePlans(two(40, 20, 22, 2), 12, 42, 21, 20);
        duePlans(two(20, 40, 2, 22), 12, 42, 12, 20);
        duePlans(two(10, 10, 40, 10), 21, 50, 12, 10);
        duePlans(two(10, 40, 10, 10), 21, 50, 12, 10);
        duePlans(two(40, 10, 10, 0), 10, 40, 21, 10);
        duePlans(two(40, 10, 10, 1), 12, 41, 21, 10);
        duePlans(two(40, 10, 10, -1), 10, 40, 21, 10);
        duePlans(two(40, 0, 40, 0), 1, 40, 0, 0);
        duePlans(two(40, -1, 41, -1), 1, 41, 0, 0);
        duePlans(two(41, -1, 40, -1), 10, 41, 0, 0);
        duePlans(two(0, 40, 0, 41), 2, 41, 0, 0);
        duePlans(two(-5, -5, -5, -5), 0, 0, 0, 0);
        duePlans(two(1, 1, 1, 1), 12, 2, 12, 1);
        duePlans(two(0, 1, 1, 0), 21, 2, 21, 1);
    }

    // ---- IN TURN: "who has most POINTS first, of like ones by numbers"

    private static void turnsByPoints() {
        check.part("IN TURN, by POINTS");
        int[][] points = {{0, 0, 0}, {999, 999, 999}, {0, 0, 1}, {998, 999, 998}, {999, 0, 999}, {1, 2, 3}, {3, 1, 2}};
        int[] want = {123, 123, 231, 213, 132, 321, 132};
        for (int i = 0; i < want.length; i++) {
            NotBothInAugust x = people(3);
            for (int one = 0; one < 3; one++) {
                x.set(6, one, points[i][one]);
            }
            due("points " + i, x.inTurn(0), want[i]);
            due("all", x.inTurn(1), 15);
            due("have none", x.inTurn(2), 0);
            due("settle", x.settle(), 15);
            for (int one = 2, rest = want[i]; one >= 0; one--, rest /= 10) {
                due("booked", x.told(one, 8), rest % 10 - 1);
            }
        }
        NotBothInAugust x = people(4);
        x.set(3, 0, 9);
        due("numbers, not NUMBERS", x.inTurn(0), 1122);
        x.set(6, 3, 1);
        due("the last first", x.inTurn(0), 1221);
    }

    // ---- "none, if none can or one HAS less than 1 of it"; "the BLOCK of which one HAS most, of like ones the first"

    private static void turnsByGladness() {
        check.part("IN TURN, by gladness");
        int[] want = {0, 0, 0, 1, 1};
        for (int joy = -2; joy <= 2; joy++) {
            NotBothInAugust x = one(0, 0, 255, "joys " + joy + ";earns 1;may 1;");
            due("joys " + joy, x.inTurn(0), want[joy + 2]);
            due("all", x.inTurn(1), Math.max(0, joy));
            due("have none", x.inTurn(2), joy > 0 ? 0 : 1);
            due("settle", x.settle(), Math.max(0, joy));
            due("booked", x.told(0, 8), joy > 0 ? 0 : NONE);
        }
        NotBothInAugust x = one(0, 0, 0b10010010, "");
        due("the first of the wished", x.inTurn(0), 2);
        x.set(4, 0, 2);
        due("the first with one of the wished", x.inTurn(0), 1);
        x.set(5, 0, 0b11010010);
        due("two of the wished", x.inTurn(0), 7);
        x.set(4, 0, 4);
        due("the most in four", x.inTurn(0), 5);
    }

    // ---- "that can be added, so that the PLAN of all who took one so far HOLDS (all others having none)"

    private static void turnsThatCanBeAdded() {
        check.part("IN TURN, what can be added");
        NotBothInAugust x = people(2);
        due("both are needed", x.inTurn(2), 2);
        x.book(0, 0);
        x.book(1, 0);
        x.set(1, 0, 1);
        due("what is booked does not count", x.inTurn(0), 12);
        due("nor is it changed", x.plan(10), 3);
        x.set(5, 0, 4);
        x.set(5, 1, 4);
        due("the next best", x.inTurn(0), 31);
        x.set(6, 1, 1);
        due("the other first", x.inTurn(0), 13);
        Check.rule(x, "joys 10;earns 1;may week=2;");
        due("no other can be added", x.inTurn(0), 3);
        due("have none", x.inTurn(2), 1);
        due("all", x.inTurn(1), 10);
        due("settle", x.settle(), 10);
        due("none", x.told(0, 8), NONE);
        due("the block", x.told(1, 8), 2);
        x.set(2, 0, 2);
        due("who knows the safe stays", x.inTurn(0), 30);
        x.set(2, 0, 3);
        due("one of two stays", x.inTurn(0), 3);
        x.apart(0, 1, 1);
        x.set(2, 0, 0);
        x.set(1, 0, 0);
        due("apart", x.inTurn(0), 3);
        x.apart(0, 1, 0);
        due("together", x.inTurn(0), 33);
    }

    // ---- CHANGE: "would HOLD and ALL be most, if more than now"

    private static void changes() {
        check.part("CHANGE");
        NotBothInAugust x = people(2);
        x.set(1, 0, 0);
        Check.rule(x, "joys number;earns 1;may 1;");
        x.book(0, 1);
        x.book(1, 6);
        due("as glad as now", x.change(0), NONE);
        due("as now", x.change(1), 0);
        x.set(3, 0, 1);
        x.set(5, 0, 64);
        due("1 more than now", x.change(0), 1);
        due("all then", x.change(1), 1);
        x.set(5, 0, 2);
        due("1 less than now", x.change(0), NONE);
        due("as now", x.change(1), 1);
        due("nothing is changed", x.told(0, 8), 1);
        x.set(5, 0, 64);
        x.set(2, 0, 1);
        due("it would not hold, nor does it now", x.change(0), NONE);
        x.set(2, 0, 0);
        due("it would", x.change(0), 1);
        due("nothing is changed", x.told(0, 8), 1);
        due("nothing is changed", x.told(1, 8), 6);
        NotBothInAugust y = Check.shop(0, 2);
        y.set(1, 0, 0);
        y.book(0, 3);
        y.book(1, 2);
        y.set(5, 0, 4);
        due("3 can not be a single's", y.change(0), NONE);
        y.book(0, 6);
        due("6 can", y.change(0), 1);
    }

    // ---- "of like ones the first"; "10 times the one, and the other (the lesser first)"

    private static void changesOfLike() {
        check.part("CHANGE, of like ones");
        for (int one = 0; one < 4; one++) {
            for (int other = one + 1; other < 4; other++) {
                NotBothInAugust x = people(4);
                for (int all = 0; all < 4; all++) {
                    x.book(all, 2 * all);
                }
                x.set(5, one, 1 << 2 * other);
                due("the one who gains", x.change(0), 10 * one + other);
                due("all then", x.change(1), 25);
                x.set(5, other, 1 << 2 * one);
                due("both gain", x.change(0), 10 * one + other);
                due("all then", x.change(1), 30);
            }
        }
        NotBothInAugust x = people(4);
        for (int all = 0; all < 4; all++) {
            x.book(all, 2 * all);
            x.set(5, all, 255 - (1 << 2 * all));
        }
        due("all twos gain alike", x.change(0), 1);
        due("all then", x.change(1), 30);
        x.set(5, 0, 1);
        due("1 and 2", x.change(0), 12);
        x.set(5, 1, 4);
        due("2 and 3", x.change(0), 23);
        x.set(5, 2, 16);
        due("none any more", x.change(0), NONE);
    }

    // "by whose changing .. ALL be most": a two behind, though one ahead gains as well, and no more of those that can't be
    private static void changesOfMost() {
        check.part("CHANGE, the most");
        int[] twos = {1, 2, 3, 12, 13, 23};
        for (int less : twos) {
            for (int more : twos) {
                if (less != more) {
                    NotBothInAugust x = people(4);
                    x.set(1, 0, 0);
                    due("rule", Check.rule(x, "joys 20+4*number;earns 1;may 1;"), 1);
                    for (int all = 0; all < 4; all++) {
                        x.book(all, 2 * all);
                    }
                    // one gains by the other's week: 12, or 10
                    int a = more / 10;
                    int b = more % 10;
                    x.set(3, a, 1);
                    x.set(5, a, 1 << 2 * b);
                    int c = less / 10;
                    int d = less % 10;
                    if (c == a) {
                        c = less % 10;
                        d = less / 10;
                    }
                    x.set(5, c, 1 << 2 * d);
                    int before = x.plan(1);
                    boolean isBoth = c == b && d == a;
                    due(more + " gains more than " + less, x.change(0), more);
                    due("all then", x.change(1), before + 12 + (isBoth ? 10 : 0));
                    x.set(1, 0, 4);
                    due("neither holds", x.change(0), NONE);
                    due("as now", x.change(1), before);
                }
            }
        }
        NotBothInAugust x = people(3);
        x.set(1, 0, 0);
        Check.rule(x, "joys 20+4*number;earns 1;may 1;");
        x.set(3, 2, 1);
        x.set(4, 2, 2);
        x.apart(0, 2, 1);
        x.book(0, 0);
        x.book(1, 1);
        x.book(2, 3);
        x.set(5, 2, 3);
        x.set(5, 1, 1);
        due("2 would have both weeks 0 and 1 for 0's, then 1 and 2 for 1's; 1 for 0's gains less", x.change(0), 2);
        due("all then", x.change(1), 10 + 10 + 48);
        x.book(0, 2);
        due("2 from week 2 on is glad of none; from week 1 on 0 stands in the way", x.change(0), NONE);
        x.apart(0, 2, 0);
        due("1 and 2 then", x.change(0), 12);
        due("all then", x.change(1), 10 + 10 + 36);
    }

    private static void changesOfNone() {
        check.part("CHANGE with none");
        NotBothInAugust x = people(3);
        x.set(1, 0, 0);
        due("none with none", x.change(0), NONE);
        x.book(2, 4);
        x.set(5, 0, 16);
        x.set(5, 1, 16);
        due("a block for none", x.change(0), 2);
        due("all then", x.change(1), 10);
        x.set(5, 0, 0);
        due("a block for none", x.change(0), 12);
        x.set(1, 0, 3);
        due("all are needed, then as now", x.change(0), NONE);
        due("as now", x.change(1), 5);
        NotBothInAugust y = people(1);
        y.book(0, 1);
        due("one alone", y.change(0), NONE);
        due("as now", y.change(1), 5);
        // what is booked needn't hold: changed, it may
        NotBothInAugust z = people(3);
        z.set(1, 0, 0);
        z.apart(0, 1, 1);
        z.book(0, 0);
        z.book(1, 0);
        z.book(2, 5);
        z.set(5, 1, 32);
        due("it does not hold", z.plan(0), 0);
        due("then it would", z.change(0), 12);
        due("all then", z.change(1), 20);
    }

    // ---- BARS: "the first other one who is booked, without whose BLOCK the booked PLAN would HOLD"

    private static void bars() {
        check.part("BARS");
        for (int one = 0; one < 4; one++) {
            for (int other = 0; other < 4; other++) {
                if (one != other) {
                    NotBothInAugust x = people(4);
                    x.set(1, 0, 0);
                    x.apart(one, other, 1);
                    due("none is booked", x.bars(one, 3), NONE);
                    x.book(other, 3);
                    due("the other", x.bars(one, 3), other);
                    due("a week ahead", x.bars(one, 2), NONE);
                    due("a week behind", x.bars(one, 4), NONE);
                    x.set(4, one, 4);
                    due("four weeks from 0 on", x.bars(one, 0), other);
                    x.set(4, one, 3);
                    due("three weeks from 0 on", x.bars(one, 0), NONE);
                    x.book(one, 3);
                    due("booked already", x.bars(one, 3), other);
                    due("booked, but would be elsewhere", x.bars(one, 5), NONE);
                    due("booked as before", x.told(one, 8), 3);
                    due("booked as before", x.told(other, 8), 3);
                }
            }
        }
    }

    // a PLAN does not hold either, if a BLOCK of another can not BE: who has it bars, whatever the week
    private static void barsOfSuchAsCanNotBe() {
        check.part("BARS of such as can not BE");
        NotBothInAugust x = people(3);
        x.set(1, 0, 0);
        Check.rule(x, "joys 1;earns 1;may not wished;");
        x.book(1, 4);
        x.book(2, 5);
        for (int week = 0; week < 8; week++) {
            due("it holds anyhow", x.bars(0, week), NONE);
        }
        x.set(5, 1, 1 << 4);
        for (int week = 0; week < 8; week++) {
            due("1 can not be away in 4", x.bars(0, week), 1);
            due("nor ahead of 2", x.bars(2, week), 1);
            due("1's own is another then", x.bars(1, week), NONE);
        }
        x.set(5, 2, 1 << 5);
        for (int week = 0; week < 8; week++) {
            due("neither alone", x.bars(0, week), NONE);
            due("2, if 1's own is another then", x.bars(1, week), week == 4 ? NONE : 2);
            due("1, if 2's own is another then", x.bars(2, week), week == 5 ? NONE : 1);
        }
        x.set(5, 1, 0);
        for (int week = 0; week < 8; week++) {
            due("2 can not be away in 5", x.bars(0, week), 2);
        }
    }

    private static void barsOfMany() {
        check.part("BARS, of many");
        NotBothInAugust x = people(4);
        x.book(1, 0);
        x.book(3, 0);
        due("two would be there no more, the first of two", x.bars(0, 0), 1);
        due("the first of two", x.bars(2, 0), 1);
        x.set(2, 0, 5);
        due("not by the safe", x.bars(0, 0), 1);
        x.set(2, 0, 9);
        due("only 3 makes it hold", x.bars(0, 0), 3);
        x.set(2, 0, 0);
        x.apart(0, 3, 1);
        due("only 3 makes it hold", x.bars(0, 0), 3);
        x.apart(0, 1, 1);
        due("no one alone", x.bars(0, 0), NONE);
        x.book(1, 7);
        due("3", x.bars(0, 0), 3);
        due("1", x.bars(0, 7), 1);
        x.apart(2, 3, 1);
        x.book(2, 0);
        due("2 and 3 are wrong anyhow, so 3 alone", x.bars(0, 0), 3);
        due("2 and 3 are wrong, the first who makes it hold", x.bars(0, 5), 2);
        due("one's own block is not laid aside", x.bars(1, 5), 2);
        // of a plan that one's block makes hold there is nobody who bars
        due("2 elsewhere, then it holds", x.bars(2, 6), NONE);
        NotBothInAugust y = Check.shop(2, 0);
        y.set(1, 0, 0);
        y.book(1, 3);
        due("no block of one's own: nobody", y.bars(0, 3), NONE);
        y.apart(0, 1, 1);
        due("nobody, though they are apart", y.bars(0, 3), NONE);
        y.book(1, 2);
        due("1", y.bars(0, 2), 1);
        NotBothInAugust z = people(1);
        due("one alone is needed, but nobody bars", z.bars(0, 0), NONE);
        z.set(1, 0, 0);
        due("one alone", z.bars(0, 0), NONE);
    }

    // ---- A YEAR: "POINTS of each are EARNS more (999 at most ..)"; "STATE: YEAR is 999"

    private static void years() {
        check.part("A YEAR, POINTS at most");
        for (int points = 990; points <= 999; points++) {
            NotBothInAugust x = one(0, 0, 0, "");
            x.set(6, 0, points);
            due("3 more", x.year(), Math.min(999, points + 3));
            due("points", x.told(0, 6), Math.min(999, points + 3));
        }
        NotBothInAugust most = one(2, 0, 0, "joys 1;earns 99;may 1;");
        most.set(6, 0, 898);
        due("101 more", most.year(), 999);
        most.set(6, 0, 897);
        due("101 more", most.year(), 998);
        check.part("A YEAR, 999 at most");
        for (int year : new int[] {0, 1, 997, 998, 999}) {
            NotBothInAugust x = people(4);
            x.set(0, 0, year);
            x.book(0, 1);
            due("year", x.year(), year < 999 ? 12 : STATE);
            due("the year", x.told(0, 0), Math.min(999, year + 1));
            due("points of all", x.count(3), year < 999 ? 12 : 0);
            due("booked", x.told(0, 8), year < 999 ? NONE : 1);
        }
        NotBothInAugust x = people(4);
        for (int one = 0; one < 4; one++) {
            x.set(6, one, 999);
        }
        due("all have most", x.year(), 3996);
    }

    private static void yearOfEach() {
        check.part("A YEAR, of each");
        // a clerk, a parent with 14, a bride with 30, a boss
        NotBothInAugust x = Check.shop(0, 1, 3, 4);
        Check.rule(x, "joys 29-9*wished;earns 5+points;may 1;");
        x.set(3, 2, 4);
        x.set(6, 0, 10);
        x.book(1, 0);
        x.book(2, 4);
        x.book(3, 7);
        int[] want = {15, 5, 0, 0};
        for (int one = 0; one < 4; one++) {
            due("earns", x.told(one, 10), want[one]);
        }
        due("year", x.year(), 25 + 5);
        int[] points = {25, 5, 0, 0};
        for (int one = 0; one < 4; one++) {
            due("points", x.told(one, 6), points[one]);
            due("no block", x.told(one, 8), NONE);
        }
        due("booked", x.count(1), 0);
        NotBothInAugust y = Check.shop(2, 5);
        due("3 and 2, half of 3", y.year(), 6);
        due("single", y.told(0, 6), 5);
        due("apprentice", y.told(1, 6), 1);
    }

    // ---- Promise 16: IN TURN becomes what is booked, truly

    private static void settles() {
        check.part("16 settle");
        NotBothInAugust x = people(4);
        x.set(1, 0, 3);
        x.set(6, 2, 1);
        for (int one = 0; one < 4; one++) {
            x.book(one, 7);
        }
        due("the booked plan does not hold", x.plan(0), 0);
        int digits = x.inTurn(0);
        due("in turn", digits, 2314);
        due("all", x.settle(), 20);
        due("it holds", x.plan(0), 1);
        due("all", x.plan(1), 20);
        due("again", x.settle(), 20);
        due("in turn as before", x.inTurn(0), digits);
        due("booked", x.count(1), 4);
        due("year stays", x.told(0, 0), 0);
        due("points stay", x.count(3), 1);
        Check.rule(x, "joys 0;earns 1;may 1;");
        due("none", x.settle(), 0);
        due("nobody is booked", x.count(1), 0);
    }
}
