import java.util.ArrayList;
import java.util.Arrays;
import java.util.HashMap;
import java.util.List;
import java.util.Map;
import java.util.TreeSet;

/**
 * The document once more, as plainly as it can be said: every plan there is gets tried, every text is read
 * anew each time it is asked. It is slow, and shares nothing with the program.
 */
final class PlainModel {
    static final int NONE = -1, BAD = -2, STATE = -3, FULL = -4;

    static final class Person implements Cloneable {
        int kind, number, length, wishes, points, block = NONE;

        Person copy() {
            try {
                return (Person) clone();
            } catch (CloneNotSupportedException e) {
                throw new IllegalStateException(e);
            }
        }
    }

    static final class World {
        int year, needed = 2, key, rule;
        List<Person> people = new ArrayList<>();
        TreeSet<Integer> apart = new TreeSet<>();

        World copy() {
            World w = new World();
            w.year = year;
            w.needed = needed;
            w.key = key;
            w.rule = rule;
            for (Person p : people) {
                w.people.add(p.copy());
            }
            w.apart.addAll(apart);
            return w;
        }
    }

    static final class Fault extends RuntimeException {
        private static final long serialVersionUID = 1;
        final int place;

        Fault(int place) {
            this.place = place;
        }
    }

    World w = new World();
    World image;
    List<String> texts = new ArrayList<>(List.of("joys 10 ; earns 3 ; may 1 ;"));
    StringBuilder tape = new StringBuilder();
    int[][] sheets = new int[4][];
    int[] sorts = {-1, -1, -1, -1};

    // ---- texts: a tree of lists

    static final class Tree {
        String what;
        int number;
        Tree left, right;

        Tree(String what, int number, Tree left, Tree right) {
            this.what = what;
            this.number = number;
            this.left = left;
            this.right = right;
        }

        int value(Map<String, Integer> names) {
            switch (what) {
                case "number": return number;
                case "or": return left.value(names) != 0 | right.value(names) != 0 ? 1 : 0;
                case "and": return left.value(names) != 0 & right.value(names) != 0 ? 1 : 0;
                case "not": return left.value(names) == 0 ? 1 : 0;
                case "<": return left.value(names) < right.value(names) ? 1 : 0;
                case "=": return left.value(names) == right.value(names) ? 1 : 0;
                case "+": return left.value(names) + right.value(names);
                case "-": return left.value(names) - right.value(names);
                case "*": return left.value(names) * right.value(names);
                case "minus": return -left.value(names);
                default: return names.get(what);
            }
        }
    }

    static final class Parser {
        final String text;
        final List<String> tokens = new ArrayList<>();
        final List<Integer> places = new ArrayList<>();
        int at;

        Parser(String text) {
            this.text = text;
            int i = 0;
            while (i < text.length()) {
                char c = text.charAt(i);
                if (c == ' ' || c == '\n') {
                    i++;
                    continue;
                }
                int j = i + 1;
                if (c >= 'a' && c <= 'z') {
                    while (j < text.length() && text.charAt(j) >= 'a' && text.charAt(j) <= 'z') {
                        j++;
                    }
                } else if (c >= '0' && c <= '9') {
                    while (j < text.length() && text.charAt(j) >= '0' && text.charAt(j) <= '9') {
                        j++;
                    }
                }
                tokens.add(text.substring(i, j));
                places.add(i);
                i = j;
            }
        }

        String token() {
            return at < tokens.size() ? tokens.get(at) : "";
        }

        Fault fault() {
            return new Fault(at < tokens.size() ? places.get(at) : text.length());
        }

        void want(String t) {
            if (!token().equals(t)) {
                throw fault();
            }
            at++;
        }

        Map<String, Tree> all() {
            Map<String, Tree> parts = new HashMap<>();
            for (String key : new String[] {"joys", "earns", "may"}) {
                want(key);
                parts.put(key, e(0));
                want(";");
            }
            if (at < tokens.size()) {
                throw fault();
            }
            return parts;
        }

        Tree e(int open) {
            Tree t = and(open);
            while (token().equals("or")) {
                at++;
                t = new Tree("or", 0, t, and(open));
            }
            return t;
        }

        Tree and(int open) {
            Tree t = not(open);
            while (token().equals("and")) {
                at++;
                t = new Tree("and", 0, t, not(open));
            }
            return t;
        }

        Tree not(int open) {
            if (token().equals("not")) {
                if (open == 5) {
                    throw fault();
                }
                at++;
                return new Tree("not", 0, not(open + 1), null);
            }
            Tree t = sum(open);
            if (token().equals("<") || token().equals("=")) {
                String sign = token();
                at++;
                t = new Tree(sign, 0, t, sum(open));
            }
            return t;
        }

        Tree sum(int open) {
            Tree t = term(open);
            while (token().equals("+") || token().equals("-")) {
                String sign = token();
                at++;
                t = new Tree(sign, 0, t, term(open));
            }
            return t;
        }

        Tree term(int open) {
            Tree t = one(open);
            while (token().equals("*")) {
                at++;
                t = new Tree("*", 0, t, one(open));
            }
            return t;
        }

        Tree one(int open) {
            String t = token();
            if (t.matches("[0-9]{1,4}")) {
                at++;
                return new Tree("number", Integer.parseInt(t), null, null);
            }
            if (t.matches("week|wished|number|length|points|away")) {
                at++;
                return new Tree(t.equals("number") ? "NUMBER" : t, 0, null, null);
            }
            if ((t.equals("-") || t.equals("(")) && open < 5) {
                at++;
                if (t.equals("-")) {
                    return new Tree("minus", 0, one(open + 1), null);
                }
                Tree inner = e(open + 1);
                want(")");
                return inner;
            }
            throw fault();
        }
    }

    private final Map<String, Map<String, Tree>> read = new HashMap<>();

    int tell(World w, String part, int one, int week) {
        Person p = w.people.get(one);
        boolean isEarns = part.equals("earns");
        int away = 0;
        for (int o = 0; o < w.people.size(); o++) {
            if (o != one && (w.people.get(o).wishes & 1 << week) != 0) {
                away++;
            }
        }
        Map<String, Integer> names = new HashMap<>();
        names.put("week", isEarns ? 0 : week);
        names.put("wished", isEarns ? 0 : (p.wishes & 1 << week) != 0 ? 1 : 0);
        names.put("NUMBER", p.number);
        names.put("length", p.length);
        names.put("points", p.points);
        names.put("away", isEarns ? 0 : away);
        String text = texts.get(w.rule);
        return read.computeIfAbsent(text, t -> new Parser(t).all()).get(part).value(names);
    }

    // ---- kinds, by cases

    int glad(World w, int one, int week) {
        Person p = w.people.get(one);
        int v = tell(w, "joys", one, week);
        v = v > 99 ? 99 : v < -99 ? -99 : v;
        boolean wished = (p.wishes & 1 << week) != 0;
        int clerk = wished ? v : v / 2;
        int parent = week == 3 || week == 4 || week == 5 ? clerk + clerk : clerk;
        switch (p.kind) {
            case 0: return clerk;
            case 1: return parent;
            case 2: return clerk + p.number;
            case 3: return (p.number & 7) == week ? 30 : parent;
            case 4: return clerk + p.number - week;
            default: return wished ? 5 : 0;
        }
    }

    int earns(World w, int one) {
        Person p = w.people.get(one);
        int v = tell(w, "earns", one, 0);
        v = v > 99 ? 99 : v < 0 ? 0 : v;
        switch (p.kind) {
            case 0: return v;
            case 1: case 3: return has(w, one, p.block) < 30 ? v : 0;
            case 2: return v + 2;
            case 4: return 0;
            default: return v / 2;
        }
    }

    boolean wants(World w, int one, int week) {
        Person p = w.people.get(one);
        boolean yes = tell(w, "may", one, week) != 0;
        switch (p.kind) {
            case 2: return yes && (week < 3 || week > 5);
            case 3: return yes || (p.number & 7) == week;
            case 4: return true;
            case 5: return yes && (week & 1) == 0;
            default: return yes;
        }
    }

    static boolean isAway(World w, int one, int block, int week) {
        return block != NONE && week >= block && week < block + w.people.get(one).length;
    }

    int has(World w, int one, int block) {
        int sum = 0;
        for (int week = 0; week < 8; week++) {
            if (isAway(w, one, block, week)) {
                sum += glad(w, one, week);
            }
        }
        return sum;
    }

    boolean canBe(World w, int one, int block) {
        for (int week = 0; week < 8; week++) {
            if (isAway(w, one, block, week) && !wants(w, one, week)) {
                return false;
            }
        }
        return true;
    }

    // ---- plans

    int[] booked(World w) {
        int[] plan = new int[w.people.size()];
        for (int i = 0; i < plan.length; i++) {
            plan[i] = w.people.get(i).block;
        }
        return plan;
    }

    boolean weekHolds(World w, int[] plan, int week) {
        int there = 0;
        boolean isKeyThere = false;
        boolean isKey = false;
        for (int i = 0; i < plan.length; i++) {
            boolean isHere = !isAway(w, i, plan[i], week);
            there += isHere ? 1 : 0;
            if ((w.key & 1 << i) != 0) {
                isKey = true;
                isKeyThere |= isHere;
            }
            for (int j = 0; j < i; j++) {
                if (!isHere && isAway(w, j, plan[j], week) && w.apart.contains(10 * j + i)) {
                    return false;
                }
            }
        }
        return (there >= w.needed || there == plan.length) && (!isKey || isKeyThere);
    }

    boolean holds(World w, int[] plan) {
        for (int i = 0; i < plan.length; i++) {
            if (!canBe(w, i, plan[i])) {
                return false;
            }
        }
        for (int week = 0; week < 8; week++) {
            if (!weekHolds(w, plan, week)) {
                return false;
            }
        }
        return true;
    }

    int all(World w, int[] plan) {
        int sum = 0;
        for (int i = 0; i < plan.length; i++) {
            sum += has(w, i, plan[i]);
        }
        return sum;
    }

    int least(World w, int[] plan) {
        int least = Integer.MAX_VALUE;
        for (int i = 0; i < plan.length; i++) {
            least = Math.min(least, has(w, i, plan[i]));
        }
        return plan.length == 0 ? 0 : least;
    }

    static int digits(int[] plan) {
        int n = 0;
        for (int b : plan) {
            n = n * 10 + b + 1;
        }
        return n;
    }

    int[] search(boolean fair) {
        int n = w.people.size();
        int[][] has = new int[n][9];
        boolean[][] can = new boolean[n][9];
        int plans = 1;
        for (int i = 0; i < n; i++) {
            plans *= 9;
            for (int d = 0; d < 9; d++) {
                has[i][d] = has(w, i, d - 1);
                can[i][d] = canBe(w, i, d - 1);
            }
        }
        int[] best = null;
        int most = 0;
        for (int k = 0; k < plans; k++) {
            int[] plan = new int[n];
            int rest = k;
            int sum = 0;
            int least = Integer.MAX_VALUE;
            boolean ok = true;
            for (int i = n - 1; i >= 0; i--) {
                int d = rest % 9;
                rest /= 9;
                plan[i] = d - 1;
                sum += has[i][d];
                least = Math.min(least, has[i][d]);
                ok &= can[i][d];
            }
            int v = fair ? least : sum;
            for (int week = 0; ok && (best == null || v > most) && week < 8; week++) {
                ok = weekHolds(w, plan, week);
            }
            if (ok && (best == null || v > most)) {
                best = plan;
                most = v;
            }
        }
        return best;
    }

    int[] turns(World w) {
        int n = w.people.size();
        Integer[] order = new Integer[n];
        for (int i = 0; i < n; i++) {
            order[i] = i;
        }
        Arrays.sort(order, (a, b) -> w.people.get(b).points - w.people.get(a).points);
        int[] plan = new int[n];
        Arrays.fill(plan, NONE);
        for (int one : order) {
            int taken = NONE;
            for (int b = 0; b < 8; b++) {
                plan[one] = b;
                if (has(w, one, b) >= 1 && (taken == NONE || has(w, one, b) > has(w, one, taken)) && holds(w, plan)) {
                    taken = b;
                }
            }
            plan[one] = taken;
        }
        return plan;
    }

    static int nones(int[] plan) {
        int n = 0;
        for (int b : plan) {
            n += b == NONE ? 1 : 0;
        }
        return n;
    }

    // ---- the calls

    boolean isOne(int one) {
        return 0 <= one && one < w.people.size();
    }

    int set(int what, int of, int v) {
        int was = what >= 0 && what <= 6 ? told(of, what) : -1000;
        int[] from = {0, 0, 0, 0, 1, 0, 0};
        int[] to = {999, 4, 15, 9, 4, 255, 999};
        if (was == -1000 || v < from[what] || v > to[what]) {
            return BAD;
        }
        switch (what) {
            case 0: w.year = v; break;
            case 1: w.needed = v; break;
            case 2: w.key = v; break;
            case 3: w.people.get(of).number = v; break;
            case 4: w.people.get(of).length = v; break;
            case 5: w.people.get(of).wishes = v; break;
            default: w.people.get(of).points = v;
        }
        return was;
    }

    int clerk(int kind, int number, int weeks) {
        if (kind < 0 || kind > 5 || number < 0 || number > 9 || weeks < 1 || weeks > 4) {
            return BAD;
        }
        if (w.people.size() == 4) {
            return FULL;
        }
        Person p = new Person();
        p.kind = kind;
        p.number = number;
        p.length = weeks;
        w.people.add(p);
        return w.people.size() - 1;
    }

    int apart(int one, int other, int v) {
        if (!isOne(one) || !isOne(other) || one == other || v != 0 && v != 1) {
            return BAD;
        }
        int two = 10 * Math.min(one, other) + Math.max(one, other);
        int was = w.apart.contains(two) ? 1 : 0;
        if (v == 1) {
            w.apart.add(two);
        } else {
            w.apart.remove(two);
        }
        return was;
    }

    int book(int one, int week) {
        if (!isOne(one) || week < -1 || week > 7) {
            return BAD;
        }
        if (!canBe(w, one, week)) {
            return STATE;
        }
        int was = w.people.get(one).block;
        w.people.get(one).block = week;
        return was;
    }

    int told(int of, int what) {
        if (what == 0) {
            return w.year;
        }
        if (what == 1) {
            return w.needed;
        }
        if (what == 2) {
            return w.key;
        }
        if (!isOne(of)) {
            return -1000;
        }
        Person p = w.people.get(of);
        switch (what) {
            case 3: return p.number;
            case 4: return p.length;
            case 5: return p.wishes;
            case 6: return p.points;
            case 7: return p.kind;
            case 8: return p.block;
            case 9: return has(w, of, p.block);
            case 10: return earns(w, of);
            default:
        }
        if (what >= 20 && what <= 27) {
            return glad(w, of, what - 20);
        }
        if (what >= 30 && what <= 37) {
            return wants(w, of, what - 30) ? 1 : 0;
        }
        return -1000;
    }

    int feed(int letter) {
        if (letter < 0 || letter > 255) {
            return BAD;
        }
        if (tape.length() == 160) {
            return FULL;
        }
        tape.append((char) letter);
        return tape.length();
    }

    int text() {
        if (texts.size() == 6) {
            return FULL;
        }
        String t = tape.toString();
        tape.setLength(0);
        try {
            new Parser(t).all();
        } catch (Fault f) {
            return -100 - f.place;
        }
        texts.add(t);
        return texts.size() - 1;
    }

    int force(int text) {
        if (text < 0 || text >= texts.size()) {
            return BAD;
        }
        int was = w.rule;
        w.rule = text;
        return was;
    }

    int plan(int what) {
        int[] plan = booked(w);
        if (what == 0) {
            return holds(w, plan) ? 1 : 0;
        }
        if (what == 1) {
            return all(w, plan);
        }
        if (what == 2) {
            for (int week = 0; week < 8; week++) {
                if (!weekHolds(w, plan, week)) {
                    return week;
                }
            }
            return NONE;
        }
        if (what < 10 || what > 17) {
            return -100000;
        }
        int bits = 0;
        for (int i = 0; i < plan.length; i++) {
            bits += isAway(w, i, plan[i], what - 10) ? 1 << i : 0;
        }
        return bits;
    }

    int year() {
        if (w.year == 999) {
            return STATE;
        }
        World before = w.copy();
        int sum = 0;
        for (int i = 0; i < w.people.size(); i++) {
            Person p = w.people.get(i);
            p.points = Math.min(999, p.points + earns(before, i));
            sum += p.points;
        }
        for (Person p : w.people) {
            p.block = NONE;
        }
        w.year++;
        return sum;
    }

    int best(int what) {
        if (what < 0 || what > 3) {
            return -100000;
        }
        int[] plan = search(what > 1);
        return what == 1 ? all(w, plan) : what == 3 ? least(w, plan) : digits(plan);
    }

    int inTurn(int what) {
        if (what < 0 || what > 2) {
            return -100000;
        }
        int[] plan = turns(w);
        return what == 0 ? digits(plan) : what == 1 ? all(w, plan) : nones(plan);
    }

    int change(int what) {
        if (what < 0 || what > 1) {
            return -100000;
        }
        int most = all(w, booked(w));
        int two = NONE;
        for (int i = 0; i < w.people.size(); i++) {
            for (int j = i + 1; j < w.people.size(); j++) {
                int[] plan = booked(w);
                plan[i] = w.people.get(j).block;
                plan[j] = w.people.get(i).block;
                if (holds(w, plan) && all(w, plan) > most) {
                    most = all(w, plan);
                    two = 10 * i + j;
                }
            }
        }
        return what == 0 ? two : most;
    }

    int bars(int one, int week) {
        if (!isOne(one) || week < 0 || week > 7) {
            return BAD;
        }
        int[] plan = booked(w);
        plan[one] = week;
        if (holds(w, plan)) {
            return NONE;
        }
        for (int i = 0; i < plan.length; i++) {
            int[] less = plan.clone();
            less[i] = NONE;
            if (i != one && plan[i] != NONE && holds(w, less)) {
                return i;
            }
        }
        return NONE;
    }

    int settle() {
        int[] plan = turns(w);
        for (int i = 0; i < plan.length; i++) {
            w.people.get(i).block = plan[i];
        }
        return all(w, plan);
    }

    int tells(int sheet, int one, int what) {
        if (sheet < 0 || sheet > 3 || !isOne(one) || what < 0 || what > 5) {
            return BAD;
        }
        int[] row = sheets[sheet];
        if (row == null) {
            return -11;
        }
        if (row.length != 8) {
            return BAD;
        }
        int bits = 0;
        int many = 0;
        int least = NONE;
        if (what == 0) {
            return otherwise(w, row, one);
        }
        int ways = what == 1 ? 6 : what == 2 ? 10 : what == 5 ? texts.size() : 256;
        for (int v = 0; v < ways; v++) {
            World x = w.copy();
            if (what == 1) {
                x.people.get(one).kind = v;
            } else if (what == 2) {
                x.people.get(one).number = v;
            } else if (what == 5) {
                x.rule = v;
            } else {
                x.people.get(one).wishes = v;
            }
            if (otherwise(x, row, one) == NONE) {
                bits |= what == 3 || what == 4 ? 0 : 1 << v;
                many++;
                least = least == NONE ? v : least;
            }
        }
        return what == 3 ? many : what == 4 ? least : bits;
    }

    int otherwise(World w, int[] row, int one) {
        for (int week = 0; week < 8; week++) {
            if (glad(w, one, week) != row[week]) {
                return week;
            }
        }
        return NONE;
    }

    int film(int sheet, int one) {
        if (sheet < 0 || sheet > 3 || !isOne(one)) {
            return BAD;
        }
        sorts[sheet] = 1;
        sheets[sheet] = new int[8];
        for (int week = 0; week < 8; week++) {
            sheets[sheet][week] = glad(w, one, week);
        }
        return 8;
    }

    World drawnWorld(int seed) {
        World x = w.copy();
        int z = seed;
        for (Person p : x.people) {
            z = z * 1103515245 + 12345;
            p.wishes = (z >>> 9) % 256;
        }
        return x;
    }

    int drawn(int seed) {
        World x = drawnWorld(seed);
        return all(x, turns(x));
    }

    long chance(int seed, int m, int part) {
        if (m < 1 || m > 20 || part < 0 || part > 1) {
            return -4611686018427387904L;
        }
        int above = 0;
        for (int i = 0; i < m; i++) {
            above += nones(turns(drawnWorld(seed + i))) == 0 ? 1 : 0;
        }
        int below = m;
        for (int d = 20; d > 1; d--) {
            if (above % d == 0 && below % d == 0) {
                above /= d;
                below /= d;
            }
        }
        return part == 0 ? above : below;
    }

    int image() {
        image = w.copy();
        return w.people.size();
    }

    int back() {
        if (image == null) {
            return STATE;
        }
        w = image.copy();
        return w.people.size();
    }

    int count(int what) {
        int booked = 0;
        int points = 0;
        for (Person p : w.people) {
            booked += p.block != NONE ? 1 : 0;
            points += p.points;
        }
        switch (what) {
            case 0: return w.people.size();
            case 1: return booked;
            case 2: return w.apart.size();
            case 3: return points;
            case 4: return texts.size();
            case 5: return tape.length();
            case 6: return w.rule;
            default: return BAD;
        }
    }

    int sheet(int sheet, int sort, int n) {
        if (sheet < 0 || sheet > 3 || sort < -1 || sort > 2) {
            return BAD;
        }
        if (sort >= 0 && n > 40) {
            return BAD;
        }
        if (sort >= 0 && n < 0) {
            return -14;
        }
        sorts[sheet] = sort;
        sheets[sheet] = sort < 0 ? null : new int[n];
        return 1;
    }

    int cell(int sheet, int i, int v) {
        if (sheet < 0 || sheet > 3) {
            return BAD;
        }
        if (sheets[sheet] == null) {
            return -11;
        }
        if (i < 0 || i >= sheets[sheet].length) {
            return -12;
        }
        sheets[sheet][i] = sorts[sheet] == 0 ? (byte) v : sorts[sheet] == 1 ? (short) v : v;
        return 1;
    }

    int copy(int sheet, int i, int other, int j, int n) {
        if (sheet < 0 || sheet > 3 || other < 0 || other > 3) {
            return BAD;
        }
        if (sheets[sheet] == null || sheets[other] == null) {
            return -11;
        }
        if (sorts[sheet] != sorts[other]) {
            return -13;
        }
        int[] from = sheets[sheet].clone();
        if (i < 0 || j < 0 || n < 0 || (long) i + n > from.length || (long) j + n > sheets[other].length) {
            return -12;
        }
        for (int k = 0; k < n; k++) {
            sheets[other][j + k] = from[i + k];
        }
        return n;
    }

    int clerks(int sheet, int sort, int from, int n) {
        if (sheet < 0 || sheet > 3 || sort < 0 || sort > 2 || n < 0 || n > 4) {
            return BAD;
        }
        if (sheets[sheet] == null) {
            return -11;
        }
        if (sorts[sheet] != sort) {
            return -13;
        }
        int came = 0;
        for (int k = 0; k < n; k++) {
            long at = from + 3L * k;
            if (at < 0 || at + 2 >= sheets[sheet].length) {
                return -12;
            }
            int a = (int) at;
            came += clerk(sheets[sheet][a], sheets[sheet][a + 1], sheets[sheet][a + 2]) >= 0 ? 1 : 0;
        }
        return came;
    }

    int taken(int one, int k) {
        if (k < 0 || k > 5) {
            return BAD;
        }
        if (!isOne(one)) {
            return -11;
        }
        int[] above = {-1, 0, 0, 1, 2, 0};
        for (int kind = w.people.get(one).kind; kind >= 0; kind = above[kind]) {
            if (kind == k) {
                return w.people.get(one).number;
            }
        }
        return -13;
    }
}
