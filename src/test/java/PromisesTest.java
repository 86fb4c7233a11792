/** For each promise of the document what its words ask: ordinary inputs, the edges, wrong inputs. */
public final class PromisesTest {
    private static final int NONE = -1, BAD = -2, STATE = -3, FULL = -4;
    private static final int NOTHING = -11, OUTSIDE = -12, OTHER_SORT = -13, BELOW_ZERO = -14;
    private static final int MIN = Integer.MIN_VALUE, MAX = Integer.MAX_VALUE;
    private static final long NO = -4611686018427387904L;
    private static final Check check = new Check();

    private static void due(String call, long got, long want) {
        check.due(call, got, want);
    }

    public static void main(String[] args) {
        newObject();
        objectsApart();
        setPeople();
        setShop();
        clerkComes();
        apartTwos();
        bookBlocks();
        toldNumbers();
        toldGladness();
        toldEarnings();
        toldWants();
        feedTape();
        textReads();
        textFaults();
        textDepth();
        textValues();
        textNames();
        textFull();
        forceRule();
        planBooked();
        planNeeds();
        yearPasses();
        bestPlans();
        bestWishes();
        fairestPlans();
        turns();
        changes();
        barred();
        settled();
        tellsAll();
        tellsWrong();
        filmed();
        drawnWishes();
        chances();
        images();
        counts();
        sheets();
        cells();
        copies();
        clerksFromSheets();
        takenFor();
        check.end("PromisesTest");
    }

    // ---- 1

    private static void newObject() {
        check.part("1 a new object");
        NotBothInAugust x = new NotBothInAugust();
        due("count(0)", x.count(0), 0);
        due("count(1)", x.count(1), 0);
        due("count(2)", x.count(2), 0);
        due("count(3)", x.count(3), 0);
        due("count(4)", x.count(4), 1);
        due("count(5)", x.count(5), 0);
        due("count(6)", x.count(6), 0);
        due("told(0, 0) the year", x.told(0, 0), 0);
        due("told(0, 1) needed", x.told(0, 1), 2);
        due("told(0, 2) key", x.told(0, 2), 0);
        due("told(0, 3)", x.told(0, 3), -1000);
        due("back()", x.back(), STATE);
        due("cell(0, 0, 0)", x.cell(0, 0, 0), NOTHING);
        due("NONE", NotBothInAugust.NONE, NONE);
        due("BAD", NotBothInAugust.BAD, BAD);
        due("STATE", NotBothInAugust.STATE, STATE);
        due("FULL", NotBothInAugust.FULL, FULL);
        due("NO", NotBothInAugust.NO, NO);
    }

    // no object has anything of another: people, tape, texts, image, sheets
    private static void objectsApart() {
        check.part("1 two objects");
        NotBothInAugust x = Check.shop(2, 0);
        NotBothInAugust y = new NotBothInAugust();
        String ofX = "joys 1;earns 2;may 0;";
        String ofY = "joys 7;earns 6;may 1;";
        for (int i = 0; i < ofX.length(); i++) {
            due("fed by turns", x.feed(ofX.charAt(i)), i + 1);
            due("fed by turns", y.feed(ofY.charAt(i)), i + 1);
        }
        due("a text", x.text(), 1);
        due("x's tape is empty", x.count(5), 0);
        due("y's is not", y.count(5), ofY.length());
        due("y has no text yet", y.count(4), 1);
        due("y's own", y.text(), 1);
        x.force(1);
        due("y's rule", y.count(6), 0);
        due("y has no people", y.count(0), 0);
        due("y's first", y.clerk(0, 3, 2), 0);
        due("x's two", x.count(0), 2);
        y.set(5, 0, 1);
        y.force(1);
        due("x's joys", x.told(1, 20), 1 / 2);
        due("y's joys", y.told(0, 20), 7);
        due("x's may", x.told(1, 30), 0);
        due("y's may", y.told(0, 30), 1);
        due("y's image", y.image(), 1);
        due("x has none", x.back(), STATE);
        due("x's image", x.image(), 2);
        due("y's second", y.clerk(1, 4, 1), 1);
        due("y's third", y.clerk(1, 5, 1), 2);
        due("y's one of then", y.back(), 1);
        due("x's two of then", x.back(), 2);
        due("x's sheet", x.sheet(0, 2, 8), 1);
        due("y has none", y.cell(0, 0, 1), NOTHING);
        due("y's sheet", y.sheet(0, 0, 3), 1);
        due("x's is as it was", x.cell(0, 7, 1), 1);
        due("x tells", x.tells(0, 1, 0), 7);
        due("y's ends", y.cell(0, 3, 1), -12);
        due("y's number", y.told(0, 3), 3);
        due("x's number", x.told(0, 3), 0);
    }

    // ---- 2

    private static void setPeople() {
        check.part("2 set of people");
        NotBothInAugust x = new NotBothInAugust();
        for (int what = 3; what <= 6; what++) {
            due("set of nobody", x.set(what, 0, 1), BAD);
        }
        x.clerk(1, 4, 2);
        x.clerk(1, 7, 3);
        int[] least = {0, 1, 0, 0};
        int[] most = {9, 4, 255, 999};
        int[] first = {4, 2, 0, 0};
        for (int what = 3; what <= 6; what++) {
            due("below", x.set(what, 0, least[what - 3] - 1), BAD);
            due("above", x.set(what, 0, most[what - 3] + 1), BAD);
            due("far below", x.set(what, 0, MIN), BAD);
            due("far above", x.set(what, 0, MAX), BAD);
            due("unchanged", x.told(0, what), first[what - 3]);
            due("to the most", x.set(what, 0, most[what - 3]), first[what - 3]);
            due("the most", x.told(0, what), most[what - 3]);
            due("to the least", x.set(what, 0, least[what - 3]), most[what - 3]);
            due("the least", x.told(0, what), least[what - 3]);
            due("no such", x.set(what, 2, least[what - 3]), BAD);
            due("no such", x.set(what, -1, least[what - 3]), BAD);
        }
        due("the other's number", x.told(1, 3), 7);
        due("the other's length", x.told(1, 4), 3);
        due("what -1", x.set(-1, 0, 1), BAD);
        due("what 7", x.set(7, 0, 1), BAD);
        due("what MIN", x.set(MIN, 0, 1), BAD);
        due("what MAX", x.set(MAX, 0, 1), BAD);
    }

    private static void setShop() {
        check.part("2 set of the shop");
        NotBothInAugust x = new NotBothInAugust();
        int[] most = {999, 4, 15};
        int[] first = {0, 2, 0};
        for (int what = 0; what <= 2; what++) {
            due("below", x.set(what, 0, -1), BAD);
            due("above", x.set(what, 0, most[what] + 1), BAD);
            due("unchanged", x.told(-7, what), first[what]);
            due("of does not matter", x.set(what, -7, most[what]), first[what]);
            due("what it was", x.set(what, MAX, 0), most[what]);
            due("now", x.told(MIN, what), 0);
        }
    }

    // ---- 3

    private static void clerkComes() {
        check.part("3 clerk");
        NotBothInAugust x = new NotBothInAugust();
        due("kind -1", x.clerk(-1, 0, 1), BAD);
        due("kind 6", x.clerk(6, 0, 1), BAD);
        due("number -1", x.clerk(0, -1, 1), BAD);
        due("number 10", x.clerk(0, 10, 1), BAD);
        due("weeks 0", x.clerk(0, 0, 0), BAD);
        due("weeks 5", x.clerk(0, 0, 5), BAD);
        due("nobody came", x.count(0), 0);
        due("first", x.clerk(5, 9, 4), 0);
        due("kind", x.told(0, 7), 5);
        due("number", x.told(0, 3), 9);
        due("length", x.told(0, 4), 4);
        due("wishes", x.told(0, 5), 0);
        due("points", x.told(0, 6), 0);
        due("block", x.told(0, 8), NONE);
        due("second", x.clerk(0, 0, 1), 1);
        due("third", x.clerk(0, 0, 1), 2);
        due("fourth", x.clerk(4, 3, 2), 3);
        due("fifth", x.clerk(0, 0, 1), FULL);
        due("bad ahead of full", x.clerk(6, 0, 1), BAD);
        due("people", x.count(0), 4);
    }

    // ---- 4

    private static void apartTwos() {
        check.part("4 apart");
        NotBothInAugust x = new NotBothInAugust();
        due("nobody", x.apart(0, 1, 1), BAD);
        for (int one = 0; one < 3; one++) {
            x.clerk(0, 0, 1);
        }
        due("0 of 0, 1", x.apart(0, 1, 0), 0);
        due("1 of 2, 0", x.apart(2, 0, 1), 0);
        due("the other way round", x.apart(0, 2, 1), 1);
        due("twos", x.count(2), 1);
        due("none any more", x.apart(0, 2, 0), 1);
        due("nor the other way round", x.apart(2, 0, 0), 0);
        due("twos", x.count(2), 0);
        due("one and the same", x.apart(1, 1, 1), BAD);
        due("no such other", x.apart(0, 3, 1), BAD);
        due("no such one", x.apart(3, 0, 1), BAD);
        due("-1", x.apart(-1, 0, 1), BAD);
        due("-1", x.apart(0, -1, 1), BAD);
        due("v 2", x.apart(0, 1, 2), BAD);
        due("v -1", x.apart(0, 1, -1), BAD);
        due("twos", x.count(2), 0);
    }

    // ---- 5

    private static void bookBlocks() {
        check.part("5 book");
        NotBothInAugust x = new NotBothInAugust();
        due("nobody", x.book(0, 0), BAD);
        x.clerk(2, 0, 3);
        due("week 8", x.book(0, 8), BAD);
        due("week -2", x.book(0, -2), BAD);
        due("no such", x.book(1, 0), BAD);
        due("-1", x.book(-1, 0), BAD);
        due("a single in 1, 2, 3", x.book(0, 1), STATE);
        due("a single in 5, 6, 7", x.book(0, 5), STATE);
        due("none yet", x.told(0, 8), NONE);
        due("a single in 0, 1, 2", x.book(0, 0), NONE);
        due("in 6, 7", x.book(0, 6), 0);
        due("in 7", x.book(0, 7), 6);
        due("refused", x.book(0, 3), STATE);
        due("as it was", x.told(0, 8), 7);
        due("none", x.book(0, NONE), 7);
        due("none again", x.book(0, NONE), NONE);
        due("booked though it does not hold", x.book(0, 0), NONE);
        due("it does not", x.plan(0), 0);
    }

    // ---- 6

    private static void toldNumbers() {
        check.part("6 told");
        NotBothInAugust x = new NotBothInAugust();
        x.clerk(3, 8, 4);
        x.clerk(0, 2, 3);
        x.set(5, 1, 0b110);
        x.set(6, 1, 77);
        x.set(0, 0, 5);
        x.set(1, 0, 1);
        x.set(2, 0, 9);
        due("year", x.told(9, 0), 5);
        due("needed", x.told(-9, 1), 1);
        due("key", x.told(1, 2), 9);
        due("number", x.told(1, 3), 2);
        due("length", x.told(1, 4), 3);
        due("wishes", x.told(1, 5), 6);
        due("points", x.told(1, 6), 77);
        due("kind", x.told(0, 7), 3);
        due("block", x.told(1, 8), NONE);
        due("has none", x.told(1, 9), 0);
        x.book(1, 1);
        due("block", x.told(1, 8), 1);
        due("has of 1, 2, 3", x.told(1, 9), 25);
        x.set(4, 1, 4);
        due("has of 1 .. 4", x.told(1, 9), 30);
        x.book(1, 6);
        due("has of 6, 7", x.told(1, 9), 10);
        for (int what : new int[] {-1, 11, 19, 28, 29, 38, 39, MIN, MAX}) {
            due("what " + what, x.told(1, what), -1000);
        }
        for (int what : new int[] {3, 6, 7, 8, 9, 10, 20, 27, 30, 37}) {
            due("no such", x.told(2, what), -1000);
            due("-1", x.told(-1, what), -1000);
        }
    }

    private static NotBothInAugust allKinds(int first, int number, int wishes) {
        NotBothInAugust x = new NotBothInAugust();
        for (int kind = first; kind < first + 3; kind++) {
            int one = x.clerk(kind, number, 1);
            x.set(5, one, wishes);
        }
        return x;
    }

    private static void dueWeeks(String call, NotBothInAugust x, int one, int from, int[] want) {
        for (int week = 0; week < 8; week++) {
            due(call + " " + week, x.told(one, from + week), want[week]);
        }
    }

    private static void toldGladness() {
        check.part("6 told GLAD");
        // joys tell 11, so a half is cut; wished are the weeks 1, 3 and 7
        NotBothInAugust x = allKinds(0, 9, 0b10001010);
        due("text", Check.text(x, "joys 11; earns 0; may 1;"), 1);
        x.force(1);
        dueWeeks("clerk", x, 0, 20, new int[] {5, 11, 5, 11, 5, 5, 5, 11});
        dueWeeks("parent", x, 1, 20, new int[] {5, 11, 5, 22, 10, 10, 5, 11});
        dueWeeks("single", x, 2, 20, new int[] {14, 20, 14, 20, 14, 14, 14, 20});
        x = allKinds(3, 9, 0b10001010);
        due("text", Check.text(x, "joys 11; earns 0; may 1;"), 1);
        x.force(1);
        dueWeeks("bride", x, 0, 20, new int[] {5, 30, 5, 22, 10, 10, 5, 11});
        dueWeeks("boss", x, 1, 20, new int[] {14, 19, 12, 17, 10, 9, 8, 13});
        dueWeeks("apprentice", x, 2, 20, new int[] {0, 5, 0, 5, 0, 0, 0, 5});
        x.set(3, 0, 4);
        dueWeeks("bride of 4", x, 0, 20, new int[] {5, 11, 5, 22, 30, 10, 5, 11});
        x.set(3, 0, 8);
        dueWeeks("bride of 8", x, 0, 20, new int[] {30, 11, 5, 22, 10, 10, 5, 11});
        // halves of what is below 0 are cut toward 0
        x = allKinds(0, 1, 0b00001000);
        due("text", Check.text(x, "joys -7; earns 0; may 1;"), 1);
        x.force(1);
        dueWeeks("sad clerk", x, 0, 20, new int[] {-3, -3, -3, -7, -3, -3, -3, -3});
        dueWeeks("sad parent", x, 1, 20, new int[] {-3, -3, -3, -14, -6, -6, -3, -3});
        dueWeeks("sad single", x, 2, 20, new int[] {-2, -2, -2, -6, -2, -2, -2, -2});
    }

    private static void toldEarnings() {
        check.part("6 told EARNS");
        int[] want = {9, 9, 11, 9, 0, 4};
        for (int kind = 0; kind < 6; kind++) {
            NotBothInAugust x = new NotBothInAugust();
            x.clerk(kind, 0, 1);
            x.set(1, 0, 0);
            due("text", Check.text(x, "joys 10; earns 9; may 1;"), 1);
            x.force(1);
            due("earns of kind " + kind, x.told(0, 10), want[kind]);
        }
        // a parent with 29 and with 30
        NotBothInAugust x = new NotBothInAugust();
        x.clerk(1, 0, 1);
        x.clerk(3, 7, 1);
        x.set(5, 0, 255);
        due("text", Check.text(x, "joys 29; earns 9; may 1;"), 1);
        due("text", Check.text(x, "joys 30; earns 9; may 1;"), 2);
        x.book(0, 0);
        x.book(1, 7);
        x.force(1);
        due("has", x.told(0, 9), 29);
        due("earns with 29", x.told(0, 10), 9);
        due("bride has", x.told(1, 9), 30);
        due("bride earns with 30", x.told(1, 10), 0);
        x.force(2);
        due("has", x.told(0, 9), 30);
        due("earns with 30", x.told(0, 10), 0);
    }

    private static void toldWants() {
        check.part("6 told WANTS");
        NotBothInAugust x = allKinds(0, 9, 0);
        dueWeeks("clerk", x, 0, 30, new int[] {1, 1, 1, 1, 1, 1, 1, 1});
        dueWeeks("parent", x, 1, 30, new int[] {1, 1, 1, 1, 1, 1, 1, 1});
        dueWeeks("single", x, 2, 30, new int[] {1, 1, 1, 0, 0, 0, 1, 1});
        due("text", Check.text(x, "joys 10; earns 3; may week < 5;"), 1);
        x.force(1);
        dueWeeks("clerk", x, 0, 30, new int[] {1, 1, 1, 1, 1, 0, 0, 0});
        dueWeeks("parent", x, 1, 30, new int[] {1, 1, 1, 1, 1, 0, 0, 0});
        dueWeeks("single", x, 2, 30, new int[] {1, 1, 1, 0, 0, 0, 0, 0});
        x = allKinds(3, 6, 0);
        due("text", Check.text(x, "joys 10; earns 3; may week < 5;"), 1);
        dueWeeks("bride", x, 0, 30, new int[] {1, 1, 1, 1, 1, 1, 1, 1});
        dueWeeks("boss", x, 1, 30, new int[] {1, 1, 1, 1, 1, 1, 1, 1});
        dueWeeks("apprentice", x, 2, 30, new int[] {1, 0, 1, 0, 1, 0, 1, 0});
        x.force(1);
        dueWeeks("bride of 6", x, 0, 30, new int[] {1, 1, 1, 1, 1, 0, 1, 0});
        dueWeeks("boss", x, 1, 30, new int[] {1, 1, 1, 1, 1, 1, 1, 1});
        dueWeeks("apprentice", x, 2, 30, new int[] {1, 0, 1, 0, 1, 0, 0, 0});
    }

    // ---- 7

    private static void feedTape() {
        check.part("7 feed");
        NotBothInAugust x = new NotBothInAugust();
        due("-1", x.feed(-1), BAD);
        due("256", x.feed(256), BAD);
        due("bytes", x.count(5), 0);
        for (int i = 1; i <= 160; i++) {
            due("feed", x.feed(i % 2 == 0 ? 0 : 255), i);
        }
        due("one more", x.feed(32), FULL);
        due("bad ahead of full", x.feed(256), BAD);
        due("bytes", x.count(5), 160);
        due("text", x.text(), -100);
        due("empty then", x.count(5), 0);
        due("room again", x.feed(32), 1);
        NotBothInAugust y = new NotBothInAugust();
        Check.feed(y, "joys 1; earns 2; may 3;");
        while (y.count(5) < 160) {
            y.feed(10);
        }
        due("a text of 160 bytes", y.text(), 1);
    }

    // ---- 8

    private static final class Reading {
        static int of(String bytes) {
            return Check.text(new NotBothInAugust(), bytes);
        }
    }

    private static void textReads() {
        check.part("8 text");
        String[] fine = {
            "joys 1;earns 2;may 3;", "joys10;earns 3;may1;", " \n joys\n1 ; earns 2 ; may 3 ; \n",
            "joys week+wished-number*length;earns points;may away;", "joys 9999;earns 0000;may 0;",
            "joys not not 1;earns 1<2;may 1=2 or 3<4 and not 5=6;", "joys (1 or 2)*(3 and 4);earns 0;may (1<2)<3;",
            "joys ---1;earns 1--1;may 1---1;", "joys not 1<2;earns 1;may not week=3 and not week=4;"
        };
        for (String bytes : fine) {
            due(bytes, Reading.of(bytes), 1);
        }
        NotBothInAugust x = new NotBothInAugust();
        Check.feed(x, "joys 1; earns 2; may 3;");
        due("bytes", x.count(5), 23);
        due("first", x.text(), 1);
        due("bytes then", x.count(5), 0);
        due("second", Check.text(x, "joys 1; earns 2; may 3;"), 2);
        due("texts", x.count(4), 3);
        due("a fault", Check.text(x, "joys ;"), -105);
        due("bytes by a fault", x.count(5), 0);
        due("texts by a fault", x.count(4), 3);
        due("third", Check.text(x, "joys 1; earns 2; may 3;"), 3);
        due("the rule stays", x.count(6), 0);
        textAfterFault();
    }

    // nothing of a text that was refused is left over for the next
    private static void textAfterFault() {
        NotBothInAugust x = new NotBothInAugust();
        x.clerk(0, 0, 1);
        x.set(5, 0, 255);
        due("a fault", Check.text(x, "joys 5; earns 6; may 1 + 2 $;"), -127);
        due("a text", Check.text(x, "joys 7; earns 8; may 0;"), 1);
        x.force(1);
        due("joys", x.told(0, 20), 7);
        due("earns", x.told(0, 10), 8);
        due("may", x.told(0, 30), 0);
        due("a longer one", Check.text(x, "joys 1234;"), -110);
        due("a shorter one", Check.text(x, "joys 1"), -106);
        due("a longer one", Check.text(x, "joyswww"), -100);
        due("a shorter one", Check.text(x, "joys"), -104);
        due("a blank", Check.text(x, " "), -101);
        due("nothing", x.text(), -100);
        due("open ones", Check.text(x, "joys (((((1"), -111);
        due("open ones", Check.text(x, "joys -(-(not 1"), -114);
        due("five again", Check.text(x, "joys (((((1))))); earns 1; may 1;"), 2);
    }

    private static void dueFault(String ahead, String rest) {
        due(ahead + rest, Reading.of(ahead + rest), -100 - ahead.length());
    }

    private static void textFaults() {
        check.part("8 FAULT");
        // the fault is where the first argument ends
        dueFault("", "");
        dueFault("  \n ", "");
        dueFault("joys", "");
        dueFault("joys 1", "");
        dueFault("joys 1   ", "");
        dueFault("joys 1; earns 2; may 3", "");
        dueFault("joys 1; earns 2; may 3 \n", "");
        dueFault("", "earns 1; earns 2; may 3;");
        dueFault("", "joy 1;");
        dueFault("", "Joys 1;");
        dueFault("", "joysearns 1;");
        dueFault("", "$");
        dueFault("joys ", "\t1;");
        dueFault("joys ", "12345; earns 2; may 3;");
        dueFault("joys ", "00000; earns 2; may 3;");
        dueFault("joys 1; earns 2; may 3;", "joys");
        dueFault("joys 1; earns 2; may 3; ", ";");
        dueFault("joys 1; earns 2; may 3; ", "4");
        dueFault("joys 1; earns 2; may 3; ", "week");
        dueFault("joys 1; earns 2; may 3; ", "or 4");
        dueFault("joys 1; earns 2; ", "or 3;");
        dueFault("joys 1; earns 2; ", "joys 3;");
        dueFault("joys 1 ", "may 2;");
        dueFault("joys 1 ", "earns 2;");
        dueFault("joys 1; ", "and 2;");
        dueFault("", "not 2;");
        dueFault("", "7;");
        dueFault("", "week;");
        dueFault("joys 1; earns 2; may 3; ", "$");
        dueFault("joys 1; ", "may 2; earns 3;");
        dueFault("joys 1 ", "2;");
        dueFault("joys 1", "week;");
        dueFault("joys week ", "wished;");
        dueFault("joys ", "days;");
        dueFault("", "toys 1;");
        dueFault("joys 1; ", "warns 2;");
        dueFault("joys 1; earns 2; ", "day 3;");
        dueFault("joys 1; earns 2; may ", "hot 3;");
        dueFault("joys 1 ", "ar 3;");
        dueFault("joys 1 ", "end 3;");
        dueFault("joys ", "meek;");
        dueFault("joys ", "dished;");
        dueFault("joys ", "lumber;");
        dueFault("joys ", "pength;");
        dueFault("joys ", "joints;");
        dueFault("joys ", "sway;");
        dueFault("joys ", "weekz;");
        dueFault("joys ", "zweek;");
        dueFault("joys ", "aweek;");
        dueFault("joys ", "`;");
        dueFault("joys ", "{;");
        dueFault("joys ", "/;");
        dueFault("joys ", ":;");
        dueFault("joys ", "weeks;");
        dueFault("joys ", "wee;");
        dueFault("joys ", "joys;");
        dueFault("joys ", "or 1;");
        dueFault("joys 1 or ", ";");
        dueFault("joys 1 and ", "or 1;");
        dueFault("joys 1 + ", "not 1;");
        dueFault("joys 1 < ", "not 1;");
        dueFault("joys - ", "not 1;");
        dueFault("joys 1 * ", "not 1;");
        dueFault("joys 1 < 2 ", "< 3;");
        dueFault("joys 1 = 2 ", "= 3;");
        dueFault("joys 1 < ", "= 2;");
        dueFault("joys 1 < 2 ", "= 3;");
        dueFault("joys ", "+1;");
        dueFault("joys 1 + ", "+ 1;");
        dueFault("joys 1 - ", ";");
        dueFault("joys 1 ", ") ;");
        dueFault("joys (1", ";");
        dueFault("joys (", ");");
        dueFault("joys 1", ");");
        dueFault("joys (1 or 2 and 3", "; earns");
        dueFault("joys not ", ";");
        dueFault("joys 1 ", "not 2;");
        dueFault("joys 1 ", "> 2;");
        dueFault("joys 1 ", "/ 2;");
        dueFault("joys 1", ".5;");
        dueFault("joys ", "_;");
        dueFault("joys 1; earns 2; may ", "\u00ff;");
        dueFault("joys 1; earns 2; may ", "\u0000;");
        dueFault("joys 1; earns 2; may ", "\r3;");
    }

    private static void textDepth() {
        check.part("8 what is open");
        String[] five = {"(((((1)))))", "-----1", "not not not not not 1", "not (not (-1))", "-(-(-1))",
            "(((((1))))) + (((((1)))))", "----- 1 + ----- 1 * ----- 1", "((((1 - 1))))", "not not not not not 1 - 1",
            "not not not not not 1 and not 1 or -1", "(((((1) + (1)))))", "not ((((week = 3 or week = 4))))"};
        for (String e : five) {
            due(e, Reading.of("joys " + e + ";earns 1;may 1;"), 1);
        }
        dueFault("joys (((((", "(1)))))); earns 1; may 1;");
        dueFault("joys -----", "-1; earns 1; may 1;");
        dueFault("joys not not not not not ", "not 1;");
        dueFault("joys not not not not not ", "-1;");
        dueFault("joys not not not not not ", "(1);");
        dueFault("joys not not not not not 1 < ", "-1;");
        dueFault("joys not not not not not 1 + ", "(1);");
        dueFault("joys (((((", "-1)))));");
        dueFault("joys (((((", "not 1)))));");
        dueFault("joys -(-(-", "(1)));");
        dueFault("joys (((((1 and ", "not 1)))));");
        dueFault("joys 1; earns not ----", "-1;");
        dueFault("joys (((((1))))) + (((((", "(1))))));");
    }

    private static int value(String e, int bound) {
        NotBothInAugust x = new NotBothInAugust();
        x.clerk(0, 7, 2);
        x.set(5, 0, 255);
        x.set(6, 0, 13);
        int text = Check.text(x, "joys " + e + ";earns " + e + ";may " + e + ";");
        x.force(text);
        return bound == 0 ? x.told(0, 22) : bound == 1 ? x.told(0, 10) : x.told(0, 32);
    }

    private static void textValues() {
        check.part("8 E");
        due("1+2*3", value("1+2*3", 0), 7);
        due("(1+2)*3", value("(1+2)*3", 0), 9);
        due("9-2-3", value("9-2-3", 0), 4);
        due("-2*3", value("-2*3", 0), -6);
        due("2--3", value("2--3", 0), 5);
        due("2*-3", value("2*-3", 0), -6);
        due("5 or 0", value("5 or 0", 0), 1);
        due("0 or 0", value("0 or 0", 0), 0);
        due("5 and 7", value("5 and 7", 0), 1);
        due("5 and 0", value("5 and 0", 0), 0);
        due("not 5", value("not 5", 0), 0);
        due("not 0", value("not 0", 0), 1);
        due("not not 5", value("not not 5", 0), 1);
        due("7", value("7", 0), 7);
        due("1 or 1 and 0", value("1 or 1 and 0", 0), 1);
        due("(1 or 1) and 0", value("(1 or 1) and 0", 0), 0);
        due("not 0 and 0", value("not 0 and 0", 0), 0);
        due("not 3<2", value("not 3<2", 0), 1);
        due("2<3", value("2<3", 0), 1);
        due("3<3", value("3<3", 0), 0);
        due("3=3", value("3=3", 0), 1);
        due("1+1=2", value("1+1=2", 0), 1);
        due("-1<0", value("-1<0", 0), 1);
        due("9999*9999*9999 wraps", value("9999*9999*9999<0", 0), (9999 * 9999 * 9999) < 0 ? 1 : 0);
        due("9999*9999*43 wraps", value("9999*9999*43=-" + -(9999 * 9999 * 43 / 10000) + "*10000-"
            + -(9999 * 9999 * 43 % 10000), 2), 1);
        due("joys 99", value("99", 0), 99);
        due("joys 100", value("100", 0), 99);
        due("joys -99", value("-99", 0), -99);
        due("joys -100", value("-100", 0), -99);
        due("earns 99", value("99", 1), 99);
        due("earns 100", value("100", 1), 99);
        due("earns -1", value("-1", 1), 0);
        due("may -1", value("-1", 2), 1);
        due("may 9", value("9", 2), 1);
        due("may 0", value("0", 2), 0);
    }

    private static void textNames() {
        check.part("8 NAMES");
        due("week", value("week", 0), 2);
        due("wished", value("wished", 0), 1);
        due("number", value("number", 0), 7);
        due("length", value("length", 0), 2);
        due("points", value("points", 0), 13);
        due("away", value("away", 0), 0);
        due("of earns week", value("week+50", 1), 50);
        due("of earns wished", value("wished+50", 1), 50);
        due("of earns away", value("away+50", 1), 50);
        due("of earns number", value("number", 1), 7);
        due("of earns length", value("length", 1), 2);
        due("of earns points", value("points", 1), 13);
        NotBothInAugust x = new NotBothInAugust();
        for (int one = 0; one < 4; one++) {
            x.clerk(0, 0, 1);
        }
        x.set(5, 0, 0b0001);
        x.set(5, 1, 0b0011);
        x.set(5, 2, 0b0101);
        due("text", Check.text(x, "joys 2*away+10*wished; earns away+wished+week; may away = 1 or wished;"), 1);
        x.force(1);
        due("0 in 0, wished, two others", x.told(0, 20), 14);
        due("3 in 0, three others, half of 6", x.told(3, 20), 3);
        due("1 in 1, wished, no other", x.told(1, 21), 10);
        due("0 in 1, one other, half of 2", x.told(0, 21), 1);
        due("may 0 in 1", x.told(0, 31), 1);
        due("may 3 in 0", x.told(3, 30), 0);
        due("may 3 in 2", x.told(3, 32), 1);
        due("may 2 in 2", x.told(2, 32), 1);
        due("may 2 in 3", x.told(2, 33), 0);
        due("earns", x.told(0, 10), 0);
        x.book(0, 0);
        due("earns, booked in a week that is wished, also by others", x.told(0, 10), 0);
    }

    private static void textFull() {
        check.part("8 FULL");
        NotBothInAugust x = new NotBothInAugust();
        for (int text = 1; text <= 5; text++) {
            due("text", Check.text(x, "joys 1; earns 2; may 3;"), text);
        }
        due("texts", x.count(4), 6);
        due("full, though the tape is empty", x.text(), FULL);
        due("full, though it is a fault", Check.text(x, "joys"), FULL);
        due("the tape stays", x.count(5), 4);
        due("full again", x.text(), FULL);
        due("texts", x.count(4), 6);
        due("the last", x.force(5), 0);
    }

    // ---- 9

    private static void forceRule() {
        check.part("9 force");
        NotBothInAugust x = new NotBothInAugust();
        x.clerk(0, 0, 1);
        due("0", x.force(0), 0);
        due("1", x.force(1), BAD);
        due("-1", x.force(-1), BAD);
        Check.text(x, "joys 20; earns 7; may 0;");
        due("not yet", x.told(0, 20), 5);
        due("1", x.force(1), 0);
        due("joys", x.told(0, 20), 10);
        due("earns", x.told(0, 10), 7);
        due("may", x.told(0, 30), 0);
        due("2", x.force(2), BAD);
        due("6", x.force(6), BAD);
        due("count(6)", x.count(6), 1);
        due("0", x.force(0), 1);
        due("joys", x.told(0, 20), 5);
    }

    // ---- 10

    private static void planBooked() {
        check.part("10 plan");
        NotBothInAugust x = new NotBothInAugust();
        due("holds", x.plan(0), 1);
        x.clerk(0, 0, 2);
        x.clerk(0, 0, 3);
        x.clerk(0, 0, 1);
        x.set(1, 0, 0);
        x.set(5, 0, 0b100);
        x.book(0, 2);
        x.book(1, 3);
        due("holds", x.plan(0), 1);
        due("all", x.plan(1), 30);
        due("no week", x.plan(2), NONE);
        int[] away = {0, 0, 1, 3, 2, 2, 0, 0};
        for (int week = 0; week < 8; week++) {
            due("away", x.plan(10 + week), away[week]);
        }
        x.apart(0, 1, 1);
        due("apart", x.plan(0), 0);
        due("apart in 3", x.plan(2), 3);
        x.book(0, 1);
        due("not in one week", x.plan(0), 1);
        x.book(1, 7);
        due("only the last", x.plan(17), 2);
        due("all", x.plan(1), 20);
        Check.text(x, "joys 10; earns 3; may week < 7;");
        x.force(1);
        due("it can not be one's any more", x.plan(0), 0);
        due("but no week is wrong", x.plan(2), NONE);
        for (int what : new int[] {-1, 3, 4, 9, 18, MIN, MAX}) {
            due("what " + what, x.plan(what), -100000);
        }
    }

    private static void planNeeds() {
        check.part("10 plan, NEEDED and KEY");
        NotBothInAugust x = new NotBothInAugust();
        x.clerk(0, 0, 1);
        x.book(0, 4);
        due("2 are needed, so all", x.plan(0), 0);
        due("in 4", x.plan(2), 4);
        x.clerk(0, 0, 1);
        x.clerk(0, 0, 1);
        due("2 of 3", x.plan(0), 1);
        x.book(2, 4);
        due("1 of 3", x.plan(0), 0);
        x.set(1, 0, 1);
        due("1 is needed", x.plan(0), 1);
        x.set(1, 0, 4);
        due("4 are needed, so all", x.plan(2), 4);
        x.set(1, 0, 0);
        x.set(2, 0, 0b1000);
        due("one who isn't there counts for nothing", x.plan(0), 1);
        x.set(2, 0, 0b1010);
        due("1 knows the safe", x.plan(0), 1);
        x.set(2, 0, 0b1101);
        due("0 and 2 know it", x.plan(2), 4);
        x.book(2, 5);
        due("0 and 2 know it, not both away", x.plan(2), NONE);
        x.book(1, 3);
        x.set(2, 0, 0b0010);
        due("1 knows it", x.plan(2), 3);
        x.clerk(0, 0, 1);
        x.set(2, 0, 0b1010);
        due("3 as well", x.plan(0), 1);
    }

    // ---- 11

    private static void yearPasses() {
        check.part("11 year");
        NotBothInAugust x = new NotBothInAugust();
        due("nobody", x.year(), 0);
        due("year", x.told(0, 0), 1);
        x.clerk(1, 0, 3);
        x.clerk(2, 0, 1);
        x.clerk(5, 0, 1);
        x.set(5, 0, 255);
        x.set(6, 1, 996);
        x.book(0, 3);
        x.book(1, 0);
        due("a parent with 60, a single, an apprentice", x.year(), 0 + 999 + 1);
        due("parent", x.told(0, 6), 0);
        due("single at most", x.told(1, 6), 999);
        due("apprentice", x.told(2, 6), 1);
        due("blocks are none", x.count(1), 0);
        due("year", x.told(0, 0), 2);
        due("wishes stay", x.told(0, 5), 255);
        due("and again", x.year(), 3 + 999 + 2);
        x.set(0, 0, 999);
        x.book(0, 0);
        due("the last", x.year(), STATE);
        due("blocks stay", x.count(1), 1);
        due("points stay", x.count(3), 1004);
        x.set(0, 0, 998);
        due("the last but one, a parent with 30", x.year(), 3 + 999 + 3);
        due("the last", x.year(), STATE);
        NotBothInAugust y = new NotBothInAugust();
        y.clerk(0, 5, 3);
        y.clerk(0, 6, 1);
        Check.text(y, "joys 1; earns points + number + length; may 1;");
        y.force(1);
        due("points of ten", y.year(), 8 + 7);
        due("points twice", y.year(), 16 + 8 + 14 + 7);
    }

    // ---- 12

    private static void bestPlans() {
        check.part("12 best");
        NotBothInAugust x = new NotBothInAugust();
        due("nobody", x.best(0), 0);
        due("nobody", x.best(1), 0);
        due("nobody", x.best(2), 0);
        due("nobody", x.best(3), 0);
        x.clerk(0, 0, 2);
        due("needed", x.best(0), 0);
        x.set(1, 0, 0);
        due("of like ones the first", x.best(0), 1);
        due("all", x.best(1), 10);
        x.set(5, 0, 0b10000000);
        due("7 alone is 10, 6 and 7 are 15", x.best(0), 7);
        due("all", x.best(1), 15);
        x.clerk(0, 0, 1);
        x.set(5, 1, 0b10000000);
        due("both in 7", x.best(0), 78);
        due("all", x.best(1), 25);
        x.apart(0, 1, 1);
        due("not both in 7", x.best(0), 18);
        due("all", x.best(1), 20);
        x.apart(0, 1, 0);
        x.set(1, 0, 1);
        due("one must be there", x.best(0), 18);
        x.set(2, 0, 1);
        due("0 knows the safe", x.best(0), 8);
        due("all", x.best(1), 10);
        due("what is booked is untouched", x.count(1), 0);
        Check.text(x, "joys -10; earns 1; may 1;");
        x.force(1);
        due("better none than sad", x.best(0), 0);
        due("all", x.best(1), 0);
        Check.text(x, "joys 0; earns 1; may 1;");
        x.force(2);
        due("none ahead of a week of 0", x.best(0), 0);
        Check.text(x, "joys 1; earns 1; may 1;");
        x.force(3);
        x.set(1, 0, 0);
        x.set(2, 0, 0);
        due("1 is more than 0", x.best(0), 78);
        x.set(5, 0, 0);
        due("1 is more than 0", x.best(0), 8);
        due("all", x.best(1), 1);
        Check.text(x, "joys 10; earns 1; may week = 2;");
        x.force(4);
        x.set(5, 0, 0b10000000);
        x.set(2, 0, 0);
        x.set(1, 0, 0);
        due("only the week 2 may be had, 0 takes two", x.best(0), 3);
        due("all", x.best(1), 5);
        for (int what : new int[] {-1, 4, MIN, MAX}) {
            due("what " + what, x.best(what), -100000);
        }
    }

    private static void bestWishes() {
        check.part("12 BEST, each in the wished week");
        NotBothInAugust x = new NotBothInAugust();
        for (int one = 0; one < 3; one++) {
            x.clerk(0, 0, 1);
        }
        for (int k = 0; k < 512; k++) {
            int a = k / 64;
            int b = k / 8 % 8;
            int c = k % 8;
            if (a != b && b != c && a != c) {
                x.set(5, 0, 1 << a);
                x.set(5, 1, 1 << b);
                x.set(5, 2, 1 << c);
                int digits = 100 * (a + 1) + 10 * (b + 1) + c + 1;
                due("best", x.best(0), digits);
                due("all", x.best(1), 30);
                due("fairest", x.best(2), digits);
                due("by turns", x.inTurn(0), digits);
            }
        }
    }

    private static void fairestPlans() {
        check.part("12 FAIREST");
        NotBothInAugust x = new NotBothInAugust();
        x.clerk(0, 0, 2);
        x.clerk(0, 0, 1);
        x.set(1, 0, 1);
        x.set(5, 0, 0b11000000);
        x.set(5, 1, 0b10000000);
        due("best, 0 has 15 and 1 has 10", x.best(0), 68);
        due("all", x.best(1), 25);
        due("fairest, 0 has 10 and 1 has 10", x.best(2), 18);
        due("the least", x.best(3), 10);
        x.clerk(5, 0, 1);
        due("an apprentice has nothing", x.best(3), 0);
        due("so the first", x.best(2), 0);
        x.set(5, 2, 0b00000010);
        due("an apprentice may not in 1", x.best(3), 0);
        x.set(5, 2, 0b00000101);
        due("an apprentice may in 0", x.best(3), 5);
        due("the first by that, not all in week 0", x.best(2), 113);
        x.set(1, 0, 3);
        due("all are needed", x.best(2), 0);
        due("the least", x.best(3), 0);
        NotBothInAugust y = new NotBothInAugust();
        y.clerk(0, 0, 1);
        y.set(1, 0, 0);
        Check.text(y, "joys 1; earns 0; may 1;");
        y.force(1);
        y.set(5, 0, 0b1000);
        due("a least of 1 is more than 0", y.best(2), 4);
        due("the least", y.best(3), 1);
        y.clerk(2, 2, 1);
        due("the last of two has most", y.best(3), 1);
        y.clerk(0, 0, 1);
        due("the last of three has none", y.best(3), 0);
    }

    // ---- 13

    private static void turns() {
        check.part("13 inTurn");
        NotBothInAugust x = new NotBothInAugust();
        due("nobody", x.inTurn(0), 0);
        due("nobody", x.inTurn(1), 0);
        due("nobody", x.inTurn(2), 0);
        for (int one = 0; one < 3; one++) {
            x.clerk(0, 0, 1);
            x.set(5, one, 0b100);
        }
        due("0 first, of like ones by numbers", x.inTurn(0), 312);
        due("all", x.inTurn(1), 20);
        due("with none", x.inTurn(2), 0);
        x.set(6, 2, 1);
        due("2 first", x.inTurn(0), 123);
        x.set(6, 1, 5);
        due("1 first, then 2, then 0", x.inTurn(0), 231);
        x.set(1, 0, 0);
        x.apart(0, 1, 1);
        due("0 is apart from 1", x.inTurn(0), 133);
        due("all", x.inTurn(1), 25);
        x.set(2, 0, 0b010);
        due("1 knows the safe, so 1 takes none", x.inTurn(0), 303);
        due("with none", x.inTurn(2), 1);
        x.set(2, 0, 0);
        x.set(1, 0, 3);
        due("all are needed", x.inTurn(0), 0);
        due("with none", x.inTurn(2), 3);
        x.set(1, 0, 2);
        Check.text(x, "joys 0 - wished; earns 1; may 1;");
        x.force(1);
        due("less than 1", x.inTurn(0), 0);
        due("all", x.inTurn(1), 0);
        Check.text(x, "joys 2 - wished; earns 1; may not wished;");
        x.force(2);
        due("not the wished", x.inTurn(0), 412);
        for (int what : new int[] {-1, 3, MIN, MAX}) {
            due("what " + what, x.inTurn(what), -100000);
        }
    }

    // ---- 14

    private static void changes() {
        check.part("14 change");
        NotBothInAugust x = new NotBothInAugust();
        due("nobody", x.change(0), NONE);
        due("nobody", x.change(1), 0);
        for (int one = 0; one < 4; one++) {
            x.clerk(0, 0, 1);
            x.book(one, 2 * one);
        }
        due("none gains", x.change(0), NONE);
        due("as now", x.change(1), 20);
        x.set(5, 1, 0b00010000);
        x.set(5, 2, 0b00000100);
        due("1 and 2", x.change(0), 12);
        due("all then", x.change(1), 30);
        due("booked as it was", x.told(1, 8), 2);
        x.set(5, 1, 0b00010001);
        x.set(5, 2, 0);
        due("0 and 1 ahead of 1 and 2", x.change(0), 1);
        due("all then", x.change(1), 25);
        x.book(0, NONE);
        due("a block for none", x.change(1), 20);
        due("1 and 2", x.change(0), 12);
        x.book(2, NONE);
        due("all as now", x.change(1), 10);
        due("none gains", x.change(0), NONE);
        x.book(0, 0);
        x.book(1, 4);
        x.book(2, 0);
        x.set(5, 1, 1);
        x.set(5, 0, 0);
        x.set(5, 2, 0);
        x.apart(0, 2, 1);
        due("the booked plan does not hold", x.plan(0), 0);
        due("0 to 4, 1 to 0: it would hold then", x.change(0), 1);
        due("all then", x.change(1), 25);
        x.apart(0, 2, 0);
        due("1 and 2 gain as much, but come later", x.change(0), 1);
        x.apart(1, 2, 1);
        due("0 and 1 would put 1 beside 2", x.change(0), 12);
        x.apart(0, 1, 1);
        due("1 would be beside one of them", x.change(0), NONE);
        due("as now", x.change(1), 20);
        for (int what : new int[] {-1, 2, MIN, MAX}) {
            due("what " + what, x.change(what), -100000);
        }
        changesOfLengths();
    }

    private static void changesOfLengths() {
        NotBothInAugust x = new NotBothInAugust();
        x.clerk(2, 0, 3);
        x.clerk(0, 0, 1);
        x.set(1, 0, 0);
        x.set(5, 0, 0b00000111);
        x.set(5, 1, 0b10000000);
        x.book(0, 7);
        x.book(1, 0);
        due("each by the own length", x.change(1), 40);
        due("both", x.change(0), 1);
        x.book(1, 1);
        due("a single may not in 3", x.change(0), NONE);
        due("as now", x.change(1), 10);
    }

    // ---- 15

    private static void barred() {
        check.part("15 bars");
        NotBothInAugust x = new NotBothInAugust();
        due("nobody", x.bars(0, 0), BAD);
        for (int one = 0; one < 4; one++) {
            x.clerk(one == 3 ? 2 : 0, 0, 2);
        }
        x.book(1, 2);
        x.book(2, 3);
        due("it holds anyhow", x.bars(0, 0), NONE);
        due("1 and 2 are away in 3", x.bars(0, 3), 1);
        due("only 2 in 4", x.bars(0, 4), NONE);
        x.apart(0, 2, 1);
        due("apart of 2", x.bars(0, 4), 2);
        due("of both, no one other alone", x.bars(0, 3), 2);
        x.apart(0, 1, 1);
        due("of both, no one other alone", x.bars(0, 3), NONE);
        due("of 1", x.bars(0, 1), 1);
        due("one's own block as it would be", x.bars(1, 5), NONE);
        x.set(2, 0, 0b0101);
        due("0 or 2 must be there", x.bars(2, 0), NONE);
        x.book(0, 6);
        due("0 bars 2", x.bars(2, 7), 0);
        due("what can not be one's, none bars", x.bars(3, 3), NONE);
        due("booked as it was", x.told(2, 8), 3);
        due("week -1", x.bars(0, NONE), BAD);
        due("week 8", x.bars(0, 8), BAD);
        due("no such", x.bars(4, 0), BAD);
        due("-1", x.bars(-1, 0), BAD);
    }

    // ---- 16

    private static void settled() {
        check.part("16 settle");
        NotBothInAugust x = new NotBothInAugust();
        due("nobody", x.settle(), 0);
        for (int one = 0; one < 3; one++) {
            x.clerk(0, 0, 1);
            x.set(5, one, 0b100);
        }
        x.set(6, 1, 5);
        x.set(6, 2, 4);
        x.book(0, 2);
        x.book(1, 2);
        due("all", x.settle(), 20);
        due("0", x.told(0, 8), 1);
        due("1", x.told(1, 8), 2);
        due("2", x.told(2, 8), 0);
        due("plan", x.plan(0), 1);
        due("plan", x.plan(1), 20);
        x.set(1, 0, 4);
        due("all are needed", x.settle(), 0);
        due("nobody is booked", x.count(1), 0);
        due("points stay", x.count(3), 9);
    }

    // ---- 17

    private static void laySheet(NotBothInAugust x, int sheet, int sort, int[] row) {
        x.sheet(sheet, sort, row.length);
        for (int i = 0; i < row.length; i++) {
            x.cell(sheet, i, row[i]);
        }
    }

    private static void dueTold(String call, NotBothInAugust x, int sheet, int one, int[] want) {
        for (int what = 0; what < 6; what++) {
            due(call + " " + what, x.tells(sheet, one, what), want[what]);
        }
    }

    private static void tellsAll() {
        check.part("17 tells");
        NotBothInAugust x = new NotBothInAugust();
        x.clerk(0, 0, 1);
        x.clerk(3, 3, 1);
        x.set(5, 1, 255);
        laySheet(x, 0, 2, new int[] {10, 5, 10, 10, 5, 5, 5, 5});
        dueTold("a clerk, also a single of 0", x, 0, 0, new int[] {0, 0, 0, 1, 0b1101, 0});
        x.set(5, 0, 0b1101);
        dueTold("a clerk, also a single of 0", x, 0, 0, new int[] {NONE, 0b101, 1023, 1, 13, 1});
        x.set(3, 0, 1);
        dueTold("a clerk, a single no more", x, 0, 0, new int[] {NONE, 1, 1023, 1, 13, 1});
        laySheet(x, 1, 2, new int[] {10, 10, 10, 30, 20, 20, 10, 10});
        dueTold("a bride of 3", x, 1, 1, new int[] {NONE, 0b1000, 1 << 3, 2, 0b11110111, 1});
        Check.text(x, "joys 10 + 10 * (week = 9); earns 0; may 0;");
        Check.text(x, "joys 11; earns 0; may 0;");
        dueTold("by 0 and by 1", x, 1, 1, new int[] {NONE, 0b1000, 1 << 3, 2, 0b11110111, 0b11});
        x.force(2);
        dueTold("by 0 and by 1, not by 2", x, 1, 1, new int[] {0, 0, 0, 0, NONE, 0b11});
        due("the rule stays", x.count(6), 2);
        due("the number stays", x.told(1, 3), 3);
        due("the wishes stay", x.told(1, 5), 255);
        due("the kind stays", x.told(1, 7), 3);
        // what a name of the rule tells changes with it: joys of number, and others who wish
        x.clerk(0, 4, 1);
        x.set(5, 2, 0b10101010);
        Check.text(x, "joys 2 * number + 20 * away; earns 0; may 0;");
        x.force(3);
        x.film(2, 2);
        dueTold("as it is", x, 2, 2, new int[] {NONE, 0b0001, 1 << 4, 1, 0b10101010, 1 << 3});
        laySheet(x, 3, 0, new int[] {0, 5, 5, 5, 5, 5, 5, 6});
        due("the last is otherwise", x.tells(3, 2, 0), 0);
        x.force(0);
        laySheet(x, 3, 0, new int[] {5, 10, 5, 10, 5, 10, 5, 11});
        due("the last is otherwise", x.tells(3, 2, 0), 7);
        due("wishes: none", x.tells(3, 2, 3), 0);
        due("the least: none", x.tells(3, 2, 4), NONE);
        Check.text(x, "joys 0; earns 0; may 0;");
        x.force(4);
        laySheet(x, 3, 0, new int[] {0, 0, 0, 0, 0, 0, 0, 0});
        dueTold("any wishes", x, 3, 2, new int[] {NONE, 0b000011, 1023, 256, 0, 1 << 4});
    }

    private static void tellsWrong() {
        check.part("17 tells, wrong inputs");
        NotBothInAugust x = new NotBothInAugust();
        due("nobody", x.tells(0, 0, 0), BAD);
        x.clerk(0, 0, 1);
        due("missing", x.tells(0, 0, 0), NOTHING);
        due("bad ahead of missing", x.tells(0, 0, 6), BAD);
        due("bad ahead of missing", x.tells(0, 1, 0), BAD);
        for (int n : new int[] {0, 7, 9, 40}) {
            x.sheet(0, 1, n);
            due("it tells " + n, x.tells(0, 0, 0), BAD);
        }
        x.sheet(0, 1, 8);
        due("it tells 8", x.tells(0, 0, 0), 0);
        due("sheet -1", x.tells(-1, 0, 0), BAD);
        due("sheet 4", x.tells(4, 0, 0), BAD);
        due("one -1", x.tells(0, -1, 0), BAD);
        due("what -1", x.tells(0, 0, -1), BAD);
        due("what 6", x.tells(0, 0, 6), BAD);
        // bytes hold what is below 0 and not more than 127
        Check.text(x, "joys 99; earns 0; may 1;");
        Check.text(x, "joys -4; earns 0; may 1;");
        x.clerk(1, 0, 1);
        x.set(5, 1, 255);
        x.force(1);
        laySheet(x, 0, 0, new int[] {99, 99, 99, 198, 198, 198, 99, 99});
        due("198 is no byte", x.tells(0, 1, 0), 3);
        x.force(2);
        laySheet(x, 0, 0, new int[] {252, -4, -4, -8, 248, -8, -4, -4});
        due("252 is -4 of bytes", x.tells(0, 1, 0), NONE);
        laySheet(x, 0, 1, new int[] {65532, -4, -4, -8, 65528, -8, -4, -4});
        due("65532 is -4 of shorts", x.tells(0, 1, 0), NONE);
        laySheet(x, 0, 2, new int[] {65532, -4, -4, -8, -8, -8, -4, -4});
        due("65532 is not -4 of ints", x.tells(0, 1, 0), 0);
    }

    // ---- 18

    private static void filmed() {
        check.part("18 film");
        NotBothInAugust x = new NotBothInAugust();
        due("nobody", x.film(0, 0), BAD);
        x.clerk(1, 0, 1);
        x.set(5, 0, 255);
        due("sheet -1", x.film(-1, 0), BAD);
        due("sheet 4", x.film(4, 0), BAD);
        due("no such", x.film(0, 1), BAD);
        due("-1", x.film(0, -1), BAD);
        due("still missing", x.cell(0, 0, 0), NOTHING);
        x.sheet(3, 2, 40);
        due("film", x.film(3, 0), 8);
        due("it tells", x.tells(3, 0, 0), NONE);
        due("8 of them", x.cell(3, 8, 0), OUTSIDE);
        x.sheet(2, 1, 1);
        due("shorts", x.copy(2, 0, 3, 0, 1), 1);
        due("0 is no joy", x.tells(3, 0, 0), 0);
        Check.text(x, "joys -99; earns 0; may 0;");
        x.force(1);
        due("film", x.film(0, 0), 8);
        due("also below 0", x.tells(0, 0, 0), NONE);
    }

    // ---- 19

    private static void drawnWishes() {
        check.part("19 drawn");
        NotBothInAugust x = new NotBothInAugust();
        due("nobody", x.drawn(5), 0);
        x.clerk(0, 0, 1);
        x.clerk(0, 0, 2);
        x.clerk(1, 0, 3);
        x.set(5, 0, 7);
        x.set(6, 2, 3);
        x.set(1, 0, 1);
        for (int seed : new int[] {0, 1, 77, -1, MIN, MAX, 123456789}) {
            NotBothInAugust y = new NotBothInAugust();
            y.clerk(0, 0, 1);
            y.clerk(0, 0, 2);
            y.clerk(1, 0, 3);
            y.set(6, 2, 3);
            y.set(1, 0, 1);
            int z = seed;
            for (int one = 0; one < 3; one++) {
                z = z * 1103515245 + 12345;
                y.set(5, one, z >>> 9 & 255);
            }
            due("drawn by " + seed, x.drawn(seed), y.inTurn(1));
        }
        due("wishes stay", x.told(0, 5), 7);
        due("wishes stay", x.told(1, 5), 0);
        due("nobody is booked", x.count(1), 0);
        // by the seed 0 the first wishes are 12345 >>> 9, that is 24: the weeks 3 and 4
        NotBothInAugust y = new NotBothInAugust();
        y.clerk(0, 0, 2);
        y.set(1, 0, 0);
        due("by the seed 0", y.drawn(0), 20);
        y.set(4, 0, 3);
        due("by the seed 0", y.drawn(0), 25);
    }

    // ---- 20

    private static void chances() {
        check.part("20 chance");
        NotBothInAugust x = new NotBothInAugust();
        due("nobody has none", x.chance(3, 20, 0), 1);
        due("nobody has none", x.chance(3, 20, 1), 1);
        x.clerk(5, 0, 1);
        x.set(1, 0, 0);
        // an apprentice has one, if one of the weeks 0, 2, 4 and 6 is wished; only week 0 may be had here
        Check.text(x, "joys 1; earns 1; may week = 0;");
        x.force(1);
        for (int seed : new int[] {0, 1000, -9, MAX - 5, MIN, 424242}) {
            for (int m = 1; m <= 20; m++) {
                int happy = 0;
                for (int i = 0; i < m; i++) {
                    int z = (seed + i) * 1103515245 + 12345;
                    happy += z >>> 9 & 1;
                }
                int common = 1;
                for (int d = 1; d <= m; d++) {
                    if (happy % d == 0 && m % d == 0) {
                        common = d;
                    }
                }
                due("above " + seed + " " + m, x.chance(seed, m, 0), happy / common);
                due("below " + seed + " " + m, x.chance(seed, m, 1), m / common);
            }
        }
        x.set(1, 0, 1);
        due("never", x.chance(1, 6, 0), 0);
        due("never", x.chance(1, 6, 1), 1);
        due("m 0", x.chance(0, 0, 0), NO);
        due("m 21", x.chance(0, 21, 0), NO);
        due("m -1", x.chance(0, -1, 1), NO);
        due("part 2", x.chance(0, 1, 2), NO);
        due("part -1", x.chance(0, 1, -1), NO);
    }

    // ---- 21, 22

    private static void images() {
        check.part("21 image, 22 back");
        NotBothInAugust x = new NotBothInAugust();
        due("no image", x.back(), STATE);
        x.clerk(1, 3, 2);
        x.clerk(2, 4, 1);
        x.set(0, 0, 7);
        x.set(1, 0, 1);
        x.set(2, 0, 2);
        x.set(5, 0, 9);
        x.set(6, 0, 50);
        x.apart(0, 1, 1);
        x.book(0, 6);
        Check.text(x, "joys 8; earns 0; may 1;");
        x.force(1);
        due("image", x.image(), 2);
        x.set(0, 0, 8);
        x.set(1, 0, 2);
        x.set(2, 0, 0);
        x.set(3, 0, 1);
        x.set(4, 0, 1);
        x.set(5, 0, 1);
        x.set(6, 0, 1);
        x.apart(0, 1, 0);
        x.book(0, 1);
        x.book(1, 1);
        x.force(0);
        x.clerk(0, 0, 1);
        x.clerk(0, 0, 1);
        x.apart(0, 3, 1);
        x.apart(2, 3, 1);
        x.sheet(1, 0, 3);
        x.feed(32);
        Check.text(x, "joys 8; earns 0; may 1;");
        x.feed(32);
        due("back", x.back(), 2);
        int[] want = {7, 1, 2, 3, 2, 9, 50, 1, 6};
        for (int what = 0; what < want.length; what++) {
            due("told " + what, x.told(0, what), want[what]);
        }
        due("block", x.told(1, 8), NONE);
        due("the rule", x.count(6), 1);
        due("they went", x.told(2, 3), -1000);
        due("apart", x.count(2), 1);
        due("texts stay", x.count(4), 3);
        due("the tape stays", x.count(5), 1);
        due("sheets stay", x.cell(1, 2, 0), 1);
        due("one comes anew", x.clerk(5, 0, 1), 2);
        due("apart of nobody", x.apart(0, 2, 0), 0);
        due("another", x.clerk(5, 0, 1), 3);
        due("apart of nobody", x.apart(0, 3, 0), 0);
        due("apart of nobody", x.apart(2, 3, 0), 0);
        due("wishes", x.told(3, 5), 0);
        due("back again", x.back(), 2);
        x.clerk(4, 4, 4);
        x.set(6, 2, 11);
        due("another image", x.image(), 3);
        due("the image is told", x.set(6, 2, 12), 11);
        x.clerk(4, 4, 4);
        due("back", x.back(), 3);
        due("points", x.told(2, 6), 11);
        NotBothInAugust y = new NotBothInAugust();
        due("of nobody", y.image(), 0);
        y.clerk(0, 0, 1);
        due("all go", y.back(), 0);
        due("first", y.clerk(1, 0, 1), 0);
        due("kind", y.told(0, 7), 1);
    }

    // ---- 23

    private static void counts() {
        check.part("23 count");
        NotBothInAugust x = new NotBothInAugust();
        for (int one = 0; one < 4; one++) {
            x.clerk(0, 0, 1);
            x.set(6, one, 999);
        }
        x.book(1, 0);
        x.book(2, 7);
        x.apart(0, 1, 1);
        x.apart(1, 2, 1);
        x.apart(3, 0, 1);
        Check.text(x, "joys 8; earns 0; may 1;");
        Check.text(x, "joys 8; earns 0; may 1;");
        x.force(2);
        Check.feed(x, "joys");
        int[] want = {4, 2, 3, 3996, 3, 4, 2};
        for (int what = 0; what < want.length; what++) {
            due("count " + what, x.count(what), want[what]);
        }
        due("-1", x.count(-1), BAD);
        due("7", x.count(7), BAD);
        due("MIN", x.count(MIN), BAD);
        due("MAX", x.count(MAX), BAD);
    }

    // ---- 24

    private static void sheets() {
        check.part("24 sheet");
        NotBothInAugust x = new NotBothInAugust();
        due("sheet -1", x.sheet(-1, 0, 1), BAD);
        due("sheet 4", x.sheet(4, 0, 1), BAD);
        due("sort -2", x.sheet(0, -2, 1), BAD);
        due("sort 3", x.sheet(0, 3, 1), BAD);
        due("bad ahead of -14", x.sheet(0, 3, -1), BAD);
        due("n 41", x.sheet(0, 0, 41), BAD);
        due("n -1", x.sheet(0, 0, -1), BELOW_ZERO);
        due("n MIN", x.sheet(0, 0, MIN), BELOW_ZERO);
        due("still missing", x.cell(0, 0, 1), NOTHING);
        for (int sort = 0; sort < 3; sort++) {
            due("n 40", x.sheet(sort, sort, 40), 1);
            due("the last", x.cell(sort, 39, 1), 1);
            due("one more", x.cell(sort, 40, 1), OUTSIDE);
            due("n 0", x.sheet(sort, sort, 0), 1);
            due("the first of none", x.cell(sort, 0, 1), OUTSIDE);
        }
        due("missing, n does not matter", x.sheet(0, -1, -99), 1);
        due("missing", x.cell(0, 0, 1), NOTHING);
        due("missing, n does not matter", x.sheet(1, -1, 99), 1);
        x.clerk(0, 1, 1);
        x.sheet(3, 2, 8);
        for (int i = 0; i < 8; i++) {
            x.cell(3, i, 5);
        }
        due("it tells", x.tells(3, 0, 0), NONE);
        due("anew", x.sheet(3, 2, 8), 1);
        due("all 0", x.tells(3, 0, 0), 0);
        due("refused", x.sheet(3, 2, -1), BELOW_ZERO);
        due("unchanged", x.cell(3, 7, 0), 1);
    }

    // ---- 25

    private static void cells() {
        check.part("25 cell");
        NotBothInAugust x = new NotBothInAugust();
        due("sheet -1", x.cell(-1, 0, 0), BAD);
        due("sheet 4", x.cell(4, 0, 0), BAD);
        due("missing", x.cell(2, -1, 0), NOTHING);
        x.sheet(2, 0, 3);
        due("-1", x.cell(2, -1, 0), OUTSIDE);
        due("3", x.cell(2, 3, 0), OUTSIDE);
        due("MAX", x.cell(2, MAX, 0), OUTSIDE);
        due("MIN", x.cell(2, MIN, 0), OUTSIDE);
        due("0", x.cell(2, 0, MAX), 1);
        due("2", x.cell(2, 2, MIN), 1);
        // what an item holds is told by who comes of it
        x.cell(2, 0, 256 + 5);
        x.cell(2, 1, -256 + 7);
        x.cell(2, 2, 512 + 2);
        due("bytes", x.clerks(2, 0, 0, 1), 1);
        due("kind", x.told(0, 7), 5);
        due("number", x.told(0, 3), 7);
        due("length", x.told(0, 4), 2);
        x.sheet(2, 1, 3);
        x.cell(2, 0, 65536 + 4);
        x.cell(2, 1, -65536 + 3);
        x.cell(2, 2, 1);
        due("shorts", x.clerks(2, 1, 0, 1), 1);
        due("kind", x.told(1, 7), 4);
        due("number", x.told(1, 3), 3);
        x.cell(2, 0, 256 + 4);
        due("260 of shorts is no kind", x.clerks(2, 1, 0, 1), 0);
        x.sheet(2, 2, 3);
        x.cell(2, 0, 65536 + 4);
        x.cell(2, 2, 1);
        due("65540 of ints is no kind", x.clerks(2, 2, 0, 1), 0);
    }

    // ---- 26

    // Where a wish is worth 1 and none is worth 0, the least wishes are the row itself, read as bits.
    private static void dueBits(String call, NotBothInAugust x, int sheet, int from, int want) {
        x.sheet(3, 1, 8);
        x.copy(sheet, from, 3, 0, 8);
        due(call + " from " + from, x.tells(3, 0, 4), want);
    }

    private static void copies() {
        check.part("26 copy");
        NotBothInAugust x = new NotBothInAugust();
        x.clerk(0, 0, 1);
        Check.text(x, "joys 1; earns 0; may 1;");
        x.force(1);
        due("sheet -1", x.copy(-1, 0, 0, 0, 0), BAD);
        due("sheet 4", x.copy(0, 0, 4, 0, 0), BAD);
        due("missing", x.copy(0, 0, 1, 0, 0), NOTHING);
        x.sheet(0, 1, 16);
        due("missing other", x.copy(0, 0, 1, 0, 0), NOTHING);
        due("missing one", x.copy(1, 0, 0, 0, 0), NOTHING);
        x.sheet(1, 2, 8);
        due("unlike sorts", x.copy(0, 0, 1, 0, 1), OTHER_SORT);
        due("unlike sorts ahead of outside", x.copy(0, 99, 1, 0, -1), OTHER_SORT);
        x.sheet(1, 1, 8);
        due("n -1", x.copy(0, 0, 1, 0, -1), OUTSIDE);
        due("i -1", x.copy(0, -1, 1, 0, 1), OUTSIDE);
        due("j -1", x.copy(0, 0, 1, -1, 1), OUTSIDE);
        due("too many for the other", x.copy(0, 0, 1, 0, 9), OUTSIDE);
        due("too many for the one", x.copy(0, 9, 1, 0, 8), OUTSIDE);
        due("n MAX", x.copy(0, 1, 1, 1, MAX), OUTSIDE);
        due("i MAX", x.copy(0, MAX, 1, 0, 1), OUTSIDE);
        due("j MAX", x.copy(0, 0, 1, MAX, 1), OUTSIDE);
        due("n MIN", x.copy(0, 0, 1, 0, MIN), OUTSIDE);
        due("n 0", x.copy(0, 0, 1, 0, 0), 0);
        due("n 0 at the ends", x.copy(0, 16, 1, 8, 0), 0);
        due("n 0 behind the ends", x.copy(0, 17, 1, 0, 0), OUTSIDE);
        due("all", x.copy(0, 8, 1, 0, 8), 8);
        // within one sheet, forward and back, the numbers come as they were
        int[] ones = {0, 2, 3, 6, 9, 14};
        for (int i : ones) {
            x.cell(0, i, 1);
        }
        dueBits("laid", x, 0, 0, 0b01001101);
        dueBits("laid", x, 0, 8, 0b01000010);
        due("forward", x.copy(0, 0, 0, 1, 15), 15);
        dueBits("forward", x, 0, 0, 0b10011011);
        dueBits("forward", x, 0, 8, 0b10000100);
        due("back", x.copy(0, 2, 0, 0, 14), 14);
        dueBits("back", x, 0, 0, 0b00100110);
        dueBits("back", x, 0, 8, 0b10100001);
        due("to another one", x.copy(0, 1, 1, 5, 2), 2);
        dueBits("to another one", x, 1, 0, 0b01100000);
    }

    // ---- 27

    private static void clerksFromSheets() {
        check.part("27 clerks");
        NotBothInAugust x = new NotBothInAugust();
        due("sheet -1", x.clerks(-1, 0, 0, 0), BAD);
        due("sheet 4", x.clerks(4, 0, 0, 0), BAD);
        due("sort -1", x.clerks(0, -1, 0, 0), BAD);
        due("sort 3", x.clerks(0, 3, 0, 0), BAD);
        due("n -1", x.clerks(0, 0, 0, -1), BAD);
        due("n 5", x.clerks(0, 0, 0, 5), BAD);
        due("missing", x.clerks(0, 0, 0, 1), NOTHING);
        due("missing, none asked", x.clerks(0, 0, 0, 0), NOTHING);
        laySheet(x, 0, 2, new int[] {9, 1, 5, 3, 6, 0, 1, 2, 4, 4, 0, 0});
        due("of another sort", x.clerks(0, 1, 0, 1), OTHER_SORT);
        due("of another sort, none asked", x.clerks(0, 0, 0, 0), OTHER_SORT);
        due("none", x.clerks(0, 2, 0, 0), 0);
        due("from -1", x.clerks(0, 2, -1, 1), OUTSIDE);
        due("from MAX", x.clerks(0, 2, MAX, 2), OUTSIDE);
        due("from MIN", x.clerks(0, 2, MIN, 2), OUTSIDE);
        due("from 10", x.clerks(0, 2, 10, 1), OUTSIDE);
        due("nobody came", x.count(0), 0);
        due("three, one left out", x.clerks(0, 2, 1, 3), 2);
        due("kind", x.told(0, 7), 1);
        due("number", x.told(0, 3), 5);
        due("length", x.told(0, 4), 3);
        due("kind", x.told(1, 7), 2);
        due("number", x.told(1, 3), 4);
        due("length", x.told(1, 4), 4);
        due("what stood ahead came", x.clerks(0, 2, 1, 4), OUTSIDE);
        due("people", x.count(0), 4);
        due("no room", x.clerks(0, 2, 1, 3), 0);
        due("no room, but outside", x.clerks(0, 2, 7, 2), OUTSIDE);
    }

    // ---- 28

    private static void takenFor() {
        check.part("28 taken");
        // rows by kind, columns by what it is taken for
        int[][] may = {{1, 0, 0, 0, 0, 0}, {1, 1, 0, 0, 0, 0}, {1, 0, 1, 0, 0, 0}, {1, 1, 0, 1, 0, 0},
            {1, 0, 1, 0, 1, 0}, {1, 0, 0, 0, 0, 1}};
        for (int kind = 0; kind < 6; kind++) {
            NotBothInAugust x = new NotBothInAugust();
            x.clerk(kind, 6, 1);
            for (int k = 0; k < 6; k++) {
                due(kind + " for " + k, x.taken(0, k), may[kind][k] == 1 ? 6 : OTHER_SORT);
            }
            x.set(3, 0, 0);
            due("number", x.taken(0, kind), 0);
            due("k -1", x.taken(0, -1), BAD);
            due("k 6", x.taken(0, 6), BAD);
            due("none such", x.taken(1, 0), NOTHING);
            due("-1", x.taken(-1, 0), NOTHING);
            due("bad ahead of none such", x.taken(1, 6), BAD);
        }
    }
}
