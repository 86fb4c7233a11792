import java.util.Random;

/** Runs of at most 512 calls, drawn by fixed seeds, of the program beside the plain model. */
public final class RandomRunsTest {
    private static final Check check = new Check();
    private final Random random;
    private final NotBothInAugust x = new NotBothInAugust();
    private final PlainModel y = new PlainModel();
    private int calls;

    private RandomRunsTest(int seed) {
        random = new Random(seed);
    }

    public static void main(String[] args) {
        int runs = args.length > 0 ? Integer.parseInt(args[0]) : 120;
        int from = args.length > 1 ? Integer.parseInt(args[1]) : 0;
        for (int seed = from; seed < from + runs && !check.isWrong(); seed++) {
            check.part("seed " + seed);
            new RandomRunsTest(seed).run(seed);
        }
        check.end("RandomRunsTest");
    }

    private void run(int seed) {
        // half of the runs keep to what there is, so that a shop is lived in; half also ask for what there isn't
        boolean tame = seed % 2 == 0;
        if (tame) {
            for (int i = 0; i < 2 + seed / 2 % 3; i++) {
                clerk(random.nextInt(6), random.nextInt(10), 1 + random.nextInt(4));
                set(5, i, random.nextInt(256));
            }
        }
        // no step but the reading of a text takes more than a dozen calls, and that one looks itself
        while (calls < 500) {
            step(tame ? 0 : 12);
        }
    }

    // a number from a on, below b, now and then one beside them or far off
    private int some(int a, int b, int wild) {
        if (wild > 0 && random.nextInt(100) < wild) {
            int[] odd = {a - 1, b, b + 1, a - 2, Integer.MIN_VALUE, Integer.MAX_VALUE, random.nextInt()};
            return odd[random.nextInt(odd.length)];
        }
        return a + random.nextInt(Math.max(1, b - a));
    }

    private int person(int wild) {
        return some(0, y.w.people.size(), wild);
    }

    private void due(String call, long got, long want) {
        calls++;
        check.due("call " + calls + ", " + call, got, want);
    }

    private void clerk(int a, int b, int c) {
        due("clerk(" + a + ", " + b + ", " + c + ")", x.clerk(a, b, c), y.clerk(a, b, c));
    }

    private void set(int a, int b, int c) {
        due("set(" + a + ", " + b + ", " + c + ")", x.set(a, b, c), y.set(a, b, c));
    }

    private void step(int wild) {
        switch (random.nextInt(30)) {
            case 0: case 1: case 2: case 3:
                setSome(wild);
                break;
            case 4:
                clerk(some(0, 6, wild), some(0, 10, wild), some(1, 5, wild));
                break;
            case 5:
                apartSome(wild);
                break;
            case 6: case 7: case 8:
                bookSome(wild);
                break;
            case 9: case 10: case 11:
                toldSome(wild);
                break;
            case 12:
                textSome(wild);
                break;
            case 13:
                int f = some(0, y.texts.size(), wild);
                due("force(" + f + ")", x.force(f), y.force(f));
                break;
            case 14: case 15: case 16:
                planSome(wild);
                break;
            case 17:
                if (random.nextInt(3) == 0) {
                    due("year()", x.year(), y.year());
                }
                break;
            case 18:
                int b = some(0, 4, wild);
                due("best(" + b + ")", x.best(b), y.best(b));
                break;
            case 19:
                int t = some(0, 3, wild);
                due("inTurn(" + t + ")", x.inTurn(t), y.inTurn(t));
                break;
            case 20:
                int c = some(0, 2, wild);
                due("change(" + c + ")", x.change(c), y.change(c));
                break;
            case 21: case 22:
                int one = person(wild);
                int week = some(0, 8, wild);
                due("bars(" + one + ", " + week + ")", x.bars(one, week), y.bars(one, week));
                break;
            case 23:
                if (random.nextInt(3) == 0) {
                    due("settle()", x.settle(), y.settle());
                }
                break;
            case 24: case 25:
                tellSome(wild);
                break;
            case 26:
                drawSome(wild);
                break;
            case 27:
                imageSome(wild);
                break;
            case 28:
                sheetSome(wild);
                break;
            default:
                int o = person(wild);
                int k = some(0, 6, wild);
                due("taken(" + o + ", " + k + ")", x.taken(o, k), y.taken(o, k));
                int q = some(0, 7, wild);
                due("count(" + q + ")", x.count(q), y.count(q));
        }
    }

    private void setSome(int wild) {
        int[] to = {1000, 5, 16, 10, 5, 256, 1000};
        int what = some(0, 7, wild);
        if (what < 0 || what > 6) {
            set(what, person(wild), some(0, 4, wild));
            return;
        }
        int v = some(what == 4 ? 1 : 0, to[what], wild);
        if (what == 1 && random.nextInt(2) == 0) {
            v = random.nextInt(2);
        }
        if (what == 2 && random.nextInt(3) == 0) {
            v = 0;
        }
        set(what, person(wild), v);
    }

    private void apartSome(int wild) {
        int one = person(wild);
        int other = person(wild);
        int v = some(0, 2, wild);
        due("apart(" + one + ", " + other + ", " + v + ")", x.apart(one, other, v), y.apart(one, other, v));
    }

    private void bookSome(int wild) {
        int one = person(wild);
        int week = some(-1, 8, wild);
        due("book(" + one + ", " + week + ")", x.book(one, week), y.book(one, week));
    }

    private void toldSome(int wild) {
        int of = person(wild);
        int what = new int[] {0, 20, 30}[random.nextInt(3)];
        what = what == 0 ? some(0, 11, wild) : some(what, what + 8, wild);
        due("told(" + of + ", " + what + ")", x.told(of, what), y.told(of, what));
    }

    private void planSome(int wild) {
        int what = random.nextInt(2) == 0 ? some(0, 3, wild) : some(10, 18, wild);
        due("plan(" + what + ")", x.plan(what), y.plan(what));
    }

    private void imageSome(int wild) {
        if (random.nextInt(2) == 0) {
            due("image()", x.image(), y.image());
        } else {
            due("back()", x.back(), y.back());
        }
    }

    private void drawSome(int wild) {
        int seed = random.nextInt(4) == 0 ? Integer.MAX_VALUE - random.nextInt(5) : random.nextInt();
        if (random.nextInt(3) == 0) {
            due("drawn(" + seed + ")", x.drawn(seed), y.drawn(seed));
            return;
        }
        int m = some(1, 21, wild);
        int part = some(0, 2, wild);
        due("chance(" + seed + ", " + m + ", " + part + ")", x.chance(seed, m, part), y.chance(seed, m, part));
    }

    private void tellSome(int wild) {
        int sheet = some(0, 4, wild);
        int one = person(wild);
        if (random.nextInt(2) == 0) {
            due("film(" + sheet + ", " + one + ")", x.film(sheet, one), y.film(sheet, one));
        }
        if (random.nextInt(3) == 0) {
            cellSome(sheet, some(0, 8, wild), random.nextInt(31));
        }
        int other = random.nextInt(3) == 0 ? person(wild) : one;
        for (int n = 0; n < 3; n++) {
            int what = some(0, 6, wild);
            due("tells(" + sheet + ", " + other + ", " + what + ")", x.tells(sheet, other, what),
                y.tells(sheet, other, what));
        }
    }

    private void cellSome(int sheet, int i, int v) {
        due("cell(" + sheet + ", " + i + ", " + v + ")", x.cell(sheet, i, v), y.cell(sheet, i, v));
    }

    private void sheetSome(int wild) {
        int sheet = some(0, 4, wild);
        int sort = some(-1, 3, wild);
        int n = random.nextInt(3) == 0 ? 8 : some(0, 41, wild);
        due("sheet(" + sheet + ", " + sort + ", " + n + ")", x.sheet(sheet, sort, n), y.sheet(sheet, sort, n));
        for (int k = 0; k < 6; k++) {
            int v = random.nextInt(4) == 0 ? random.nextInt() : random.nextInt(2) * 256 + random.nextInt(6);
            cellSome(sheet, random.nextInt(3) == 0 ? k : some(0, n > 0 && n < 40 ? n : 1, wild), v);
        }
        int other = some(0, 4, wild);
        int i = some(0, 9, wild);
        int j = some(0, 9, wild);
        int m = some(0, 9, wild);
        due("copy(" + sheet + ", " + i + ", " + other + ", " + j + ", " + m + ")", x.copy(sheet, i, other, j, m),
            y.copy(sheet, i, other, j, m));
        int as = random.nextInt(3) == 0 ? some(0, 3, wild) : sort;
        int from = some(0, 6, wild);
        int people = some(0, 5, wild);
        due("clerks(" + sheet + ", " + as + ", " + from + ", " + people + ")", x.clerks(sheet, as, from, people),
            y.clerks(sheet, as, from, people));
    }

    // ---- texts

    private void textSome(int wild) {
        if (calls > 300) {
            return;
        }
        String text = "joys " + either(0) + ";earns " + either(0) + "; may " + either(0) + " ;";
        if (random.nextInt(3) == 0) {
            int at = random.nextInt(text.length());
            String odd = " \n;()+-*<=or and not week 7 away$Q joys 12345";
            int to = random.nextInt(odd.length());
            String piece = odd.substring(random.nextInt(to + 1), to);
            text = text.substring(0, at) + piece + text.substring(Math.min(text.length(), at + random.nextInt(3)));
        }
        for (int i = 0; i < text.length() && calls < 500; i++) {
            due("feed(" + (int) text.charAt(i) + ")", x.feed(text.charAt(i)), y.feed(text.charAt(i)));
        }
        if (wild > 0) {
            int letter = some(0, 256, 90);
            due("feed(" + letter + ")", x.feed(letter), y.feed(letter));
        }
        due("text() of " + y.tape, x.text(), y.text());
    }

    private String either(int deep) {
        String e = both(deep);
        for (int n = 0; n < 4 && random.nextInt(4) == 0; n++) {
            e = e + " or " + both(deep);
        }
        return e;
    }

    private String both(int deep) {
        String e = not(deep);
        for (int n = 0; n < 4 && random.nextInt(5) == 0; n++) {
            e = e + " and " + not(deep);
        }
        return e;
    }

    private String not(int deep) {
        if (random.nextInt(9) == 0) {
            return "not " + not(deep + 1);
        }
        String e = sum(deep);
        return random.nextInt(5) == 0 ? e + (random.nextBoolean() ? "<" : "=") + sum(deep) : e;
    }

    private String sum(int deep) {
        String e = term(deep);
        for (int n = 0; n < 2 && random.nextInt(3) == 0; n++) {
            e = e + (random.nextBoolean() ? " + " : "-") + term(deep);
        }
        return e;
    }

    private String term(int deep) {
        String e = one(deep);
        for (int n = 0; n < 3 && random.nextInt(4) == 0; n++) {
            e = e + "*" + one(deep);
        }
        return e;
    }

    private String one(int deep) {
        int way = random.nextInt(deep > 6 ? 8 : 11);
        if (way < 4) {
            return String.valueOf(random.nextInt(10) == 0 ? random.nextInt(10000) : random.nextInt(25));
        }
        if (way < 8) {
            return new String[] {"week", "wished", "number", "length", "points", "away"}[random.nextInt(6)];
        }
        return way == 8 ? "-" + one(deep + 1) : "(" + either(deep + 1) + ")";
    }
}
